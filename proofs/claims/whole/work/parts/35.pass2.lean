/-! ===== level 2: a pass, first half: the reference ===== -/
theorem pr_k {A B : Type} {X a : A} {Y c : B} {R : A → B → Prop} (hk : ∀ s : A × B, (s.1 = X ∧ s.2 = Y) → R s.1 s.2) (h1 : a = X) (h2 : c = Y) : R a c := by
  subst h1 h2; exact hk (a, c) ⟨rfl, rfl⟩
section PB
variable {b : Nat} {g : XRow}
/-- a machine's numbers alone decide its rates -/
theorem rates_eq {g' : XRow} {m : Nat} (h : ∀ j, j < 5 → g' (26 + 11 * m + j) = g (26 + 11 * m + j)) (flow : Nat) : caN g' m flow = caN g m flow ∧ miN g' m flow = miN g m flow := by
  have h1 := h 1 (by omega); have h2 := h 2 (by omega); have h3 := h 3 (by omega); have h4 := h 4 (by omega)
  rw [show 26 + 11 * m + 1 = 27 + 11 * m by omega] at h1
  rw [show 26 + 11 * m + 2 = 28 + 11 * m by omega] at h2
  rw [show 26 + 11 * m + 3 = 29 + 11 * m by omega] at h3
  rw [show 26 + 11 * m + 4 = 30 + 11 * m by omega] at h4
  unfold caN miN exN
  rw [h1, h2, h3, h4]
  exact ⟨rfl, rfl⟩
theorem tm_sort {m : Nat} {G C : XRow} {c e : Nat → Nat} {kk : Int32 → XRow → XRow → Prop} (hI : IM g) (hG0 : G 0 = g 0) (hG : ∀ m, m < cn (g 0) → ∀ j, j < 5 → G (26 + 11 * m + j) = g (26 + 11 * m + j)) (hm : m < cn (g 0)) (hc : ∀ k, k < 5 → C k = nI (c k)) (he : ∀ k, k < 5 → G (31 + 11 * m + k) = nI (e k)) (h500 : s5 c ≤ 500) (h : kk 5 (fil G (31 + 11 * m) 5 (fun k => nI (e k + gsN g m c k))) (fil C 0 5 (fun k => nI (c k - gsN g m c k)))) : ∃ fl, wp_X9_passes_L110 (nI (s5 c)) (nI m) kk fl 0 G C := by
  have h6 := (IM_mc hI).2
  have eF : ∀ x y i, fil C 0 i x (0 + y) = fil C 0 i x y := fun x y i => by rw [Nat.zero_add]
  refine loop_0 (fun n i (s : XRow × XRow) => wp_X9_passes_L110 (nI (s5 c)) (nI m) kk n (nI i) s.1 s.2) (fun i s => s.1 = fil G (31 + 11 * m) i (fun k => nI (e k + gsN g m c k)) ∧ s.2 = fil C 0 i (fun k => nI (c k - gsN g m c k))) 5 (G, C) ⟨(fil_0 _ _ _).symm, (fil_0 _ _ _).symm⟩ ?_ ?_
  · intro n s hs
    obtain ⟨t1, t2⟩ := hs
    refine if_y (nI_le (a := 5) (b := 5) (by omega) (by omega)) ?_
    show kk (nI 5) s.1 s.2
    rw [t1, t2]
    exact h
  · intro n i s hi hs hk
    obtain ⟨t1, t2⟩ := hs
    generalize s.1 = v13 at t1 ⊢
    generalize s.2 = v14 at t2 ⊢
    subst t1 t2
    have e1 : nI i + 1 = nI (i + 1) := nI_1 i
    have e5 : (5 : Int32) + nI i = nI (5 + i) := nI_add 5 i
    have hci : c i ≤ 500 := by have := s5_ge c i hi; omega
    have hrt := rtN_le hI hm (s5 c) i
    have h5 := mul100 hci hrt
    have hg : gsN g m c i ≤ c i := gsN_le hI hm c i
    have hfar : ∀ x j, j < 5 → x < cn (g 0) → fil G (31 + 11 * m) i (fun k => nI (e k + gsN g m c k)) (26 + 11 * x + j) = g (26 + 11 * x + j) := fun x j hj hx => by
      rw [fil_out (by omega)]; exact hG x hx j hj
    have hI2 : IM (fil G (31 + 11 * m) i (fun k => nI (e k + gsN g m c k))) := IM_eq (g := g) (by rw [fil_out (by omega)]; exact hG0) (fun x hx j hj => hfar x j hj hx) hI
    have hm2 : m < cn (fil G (31 + 11 * m) i (fun k => nI (e k + gsN g m c k)) 0) := by rw [fil_out (by omega), hG0]; exact hm
    obtain ⟨r1, r2⟩ := rates_eq (g := g) (g' := fil G (31 + 11 * m) i (fun k => nI (e k + gsN g m c k))) (m := m) (fun j hj => hfar m j hj hm) (s5 c)
    have hci2 : fil C 0 i (fun k => nI (c k - gsN g m c k)) i = nI (c i) := by
      have := fil_out (f := C) (b := 0) (k := i) (v := fun k => nI (c k - gsN g m c k)) (j := i) (by omega)
      rw [this]; exact hc i hi
    have hei : fil G (31 + 11 * m) i (fun k => nI (e k + gsN g m c k)) (31 + 11 * m + i) = nI (e i) := by
      rw [fil_out (by omega)]; exact he i hi
    have tail : ∀ r : Nat, r = rtN g m (s5 c) i → ∀ x : Int32, x = (fil C 0 i (fun k => nI (c k - gsN g m c k)) (nI i).toNatClampNeg * nI r) / 100 → wp_X9_machineAt (nI m) (5 + nI i) (fun u22 : Int32 => vp_in u22 672 ∧ (vp_in u22 672 ∧ (vp_in (nI i) 5 ∧ (vp_in (nI i) 5 ∧ (∀ x23 : Int32, x23 = nI i + 1 → (wp_X9_passes_L110 (nI (s5 c)) (nI m) kk n x23 (upd (fil G (31 + 11 * m) i (fun k => nI (e k + gsN g m c k))) (u22).toNatClampNeg ((fil G (31 + 11 * m) i (fun k => nI (e k + gsN g m c k)) (u22).toNatClampNeg) + x)) (upd (fil C 0 i (fun k => nI (c k - gsN g m c k))) (nI i).toNatClampNeg ((fil C 0 i (fun k => nI (c k - gsN g m c k)) (nI i).toNatClampNeg) - x)))))))) := fun r hr x hx => by
      subst hr
      rw [nI_clamp (by omega), hci2, pk_mul, show (100 : Int32) = nI 100 from rfl, pk_div (by omega) (by omega) (by omega)] at hx
      replace hx : x = nI (gsN g m c i) := hx
      subst hx
      refine tm_mAt (m := m) (w := 5 + i) rfl e5 ⟨v672 (by omega), v672 (by omega), vp_in_nI hi (by omega), vp_in_nI hi (by omega), ?_⟩
      intro y hy
      rw [hy, e1, tn_nI (by omega), nI_clamp (by omega), show 26 + 11 * m + (5 + i) = 31 + 11 * m + i by omega, hei, hci2, nI_add, pk_sub hg]
      refine pr_k hk ?_ ?_
      · exact fil_s G (31 + 11 * m) i (fun k => nI (e k + gsN g m c k))
      · have := fil_s C 0 i (fun k => nI (c k - gsN g m c k))
        rw [Nat.zero_add] at this
        exact this
    refine if_n (nI_ge (a := i) (b := 5) hi (by omega)) ⟨vp_in_nI hi (by omega), tm_mAt (m := m) (w := 0) rfl rfl ⟨v672 (by omega), ?_⟩⟩
    rw [tn_nI (by omega), hfar m 0 (by omega) hm, Nat.add_zero]
    refine ⟨fun ht => tm_catches hI2 hm2 rfl rfl (by omega) ?_, fun ht => tm_mistakes hI2 hm2 rfl rfl (by omega) ?_⟩
    · rw [r1]
      exact tail _ (by unfold rtN; rw [if_pos ht])
    · rw [r2]
      exact tail _ (by unfold rtN; rw [if_neg ht])
theorem tm_clear {G C : XRow} {c h0 w0 : Nat → Nat} {lp : Nat} {kk : Int32 → XRow → Prop} (hl : G 7 = nI lp) (hlp : lp ≤ 100) (hc : ∀ k, k < 5 → C k = nI (c k)) (hh : ∀ k, k < 5 → G (11 + k) = nI (h0 k)) (hw : ∀ k, k < 5 → G (16 + k) = nI (w0 k)) (h500 : s5 c ≤ 500) (h : kk 5 (fil (fil G 11 5 (fun k => nI (h0 k + c k * lp / 100))) 16 5 (fun k => nI (w0 k + (c k - c k * lp / 100))))) : ∃ fl, wp_X9_passes_L203 C kk fl 0 G := by
  refine loop_0 (fun n i (s : XRow) => wp_X9_passes_L203 C kk n (nI i) s) (fun i s => s = fil (fil G 11 i (fun k => nI (h0 k + c k * lp / 100))) 16 i (fun k => nI (w0 k + (c k - c k * lp / 100)))) 5 G (by rw [fil_0, fil_0]) ?_ ?_
  · intro n s hs
    subst hs
    exact if_y (nI_le (a := 5) (b := 5) (by omega) (by omega)) h
  · intro n i s hi hs hk
    subst hs
    have e1 : nI i + 1 = nI (i + 1) := nI_1 i
    have hci : c i ≤ 500 := by have := s5_ge c i hi; omega
    have h5 := mul100 hci hlp
    have hb : c i * lp / 100 ≤ c i := by have := Nat.mul_le_mul_left (c i) hlp; omega
    refine if_n (nI_ge (a := i) (b := 5) hi (by omega)) ⟨vp_in_nI hi (by omega), v672 (n := 7) (by omega), ?_⟩
    rw [a11, a16, nI_clamp (n := i) (by omega), tn_nI (by omega), tn_nI (by omega), hc i hi, show (7 : Int32).toNatClampNeg = 7 from rfl, fil_out (j := 7) (by omega), fil_out (j := 7) (by omega), hl]
    intro x hx
    have ex : x = nI (c i * lp / 100) := by
      rw [hx, pk_mul, show (100 : Int32) = nI 100 from rfl, pk_div (by omega) (by omega) (by omega)]
    subst ex
    refine ⟨v672 (by omega), v672 (by omega), v672 (by omega), vp_in_nI hi (by omega), v672 (by omega), ?_⟩
    intro y hy
    rw [hy, e1, fil_out (j := 11 + i) (by omega), fil_out (j := 11 + i) (by omega), hh i hi, nI_add, pk_sub hb, un (show 16 + i ≠ 11 + i by omega), fil_out (j := 16 + i) (by omega), fil_out (j := 16 + i) (by omega), hw i hi, nI_add]
    exact hk _ (fil2_s (v := fun k => nI (h0 k + c k * lp / 100)) (w := fun k => nI (w0 k + (c k - c k * lp / 100))) (by omega) hi)
/-- the reference's pass up to the bales -/
theorem tm_belt1 {part come : XRow} {post : XRow × XRow × XRow → Prop} (hI : Inv b g) (hb : b ≤ 600) (h : ∀ part' come', ∃ fl, wp_X9_passes_L267 (fun (_ : Int32) (v49 : XRow) (v50 : XRow) => vp_in 4 672 ∧ (vp_in 4 672 ∧ (post (upd v49 ((4 : Int32).toNatClampNeg) ((v49 ((4 : Int32).toNatClampNeg)) + 1), v50, come')))) fl 0 (gC g) part') : wp_X9_takes g part 11 (nI (n0 g)) (fun u2 : XRow × XRow => ∃ fl, wp_X9_passes_L37 u2 (fun (_ : Int32) (v7 : XRow) => ∃ fl, wp_X9_passes_L62 (fun (_ : Int32) (v29 : XRow) (v30 : XRow) => ∃ fl, wp_X9_passes_L203 v30 (fun (_ : Int32) (v36 : XRow) => ∃ fl, wp_X9_passes_L267 (fun (_ : Int32) (v49 : XRow) (v50 : XRow) => vp_in 4 672 ∧ (vp_in 4 672 ∧ (post (upd v49 ((4 : Int32).toNatClampNeg) ((v49 ((4 : Int32).toNatClampNeg)) + 1), v50, v30)))) fl 0 v36 u2.2) fl 0 v29) fl 0 u2.1 v7) fl 0 come) := by
  obtain ⟨em, h6⟩ := IM_mc (Inv_M hI)
  obtain ⟨s1, l1, u1⟩ := ok_cn (Inv_S hI).2.1 (by omega)
  have hK := Inv_K hI
  have htot := hK.2.2.1
  have hq : ∀ k, k < 5 → g (11 + k) = nI (kq g 11 k) := fun k hk => (hK.1 k hk).1
  have hs5 : s5 (kq g 11) ≤ 999 * b := by unfold tot at htot; omega
  have hm31 : ∀ k, k < 5 → kq g 11 k * n0 g < 2 ^ 31 := fun k hk => by
    have a1 := s5_ge (kq g 11) k hk
    have a2 := n0_500 (Inv_S hI)
    have := Nat.mul_le_mul (show kq g 11 k ≤ 600000 by omega) a2
    omega
  refine tq_takes (a := 11) (q := kq g 11) (n := n0 g) rfl rfl hq (by omega) hm31 (by omega) (n0_le g) ?_
  refine loop_0 (fun n i (s : XRow) => wp_X9_passes_L37 (fil g 11 5 (fun k => nI (kq g 11 k - shr (kq g 11) (n0 g) k)), fil part 0 5 (fun k => nI (shr (kq g 11) (n0 g) k))) (fun (_ : Int32) (v7 : XRow) => ∃ fl, wp_X9_passes_L62 (fun (_ : Int32) (v29 : XRow) (v30 : XRow) => ∃ fl, wp_X9_passes_L203 v30 (fun (_ : Int32) (v36 : XRow) => ∃ fl, wp_X9_passes_L267 (fun (_ : Int32) (v49 : XRow) (v50 : XRow) => vp_in 4 672 ∧ (vp_in 4 672 ∧ (post (upd v49 ((4 : Int32).toNatClampNeg) ((v49 ((4 : Int32).toNatClampNeg)) + 1), v50, v30)))) fl 0 v36 (fil part 0 5 (fun k => nI (shr (kq g 11) (n0 g) k)))) fl 0 v29) fl 0 (fil g 11 5 (fun k => nI (kq g 11 k - shr (kq g 11) (n0 g) k))) v7) n (nI i) s) (fun i s => s = fil come 0 i (fun k => nI (shr (kq g 11) (n0 g) k))) 5 come (fil_0 _ _ _).symm ?_ ?_
  · intro n s hs
    subst hs
    refine if_y (nI_le (a := 5) (b := 5) (by omega) (by omega)) ?_
    refine loop_0 (fun n i (s : XRow × XRow) => wp_X9_passes_L62 (fun (_ : Int32) (v29 : XRow) (v30 : XRow) => ∃ fl, wp_X9_passes_L203 v30 (fun (_ : Int32) (v36 : XRow) => ∃ fl, wp_X9_passes_L267 (fun (_ : Int32) (v49 : XRow) (v50 : XRow) => vp_in 4 672 ∧ (vp_in 4 672 ∧ (post (upd v49 ((4 : Int32).toNatClampNeg) ((v49 ((4 : Int32).toNatClampNeg)) + 1), v50, v30)))) fl 0 v36 (fil part 0 5 (fun k => nI (shr (kq g 11) (n0 g) k)))) fl 0 v29) n (nI i) s.1 s.2) (fun i s => s.1 = gS g i ∧ s.2 = fil come 0 5 (fun k => nI (cmN g i k))) (cn (g 0)) (_, _) ⟨rfl, rfl⟩ ?_ ?_
    · intro n s hs
      obtain ⟨t1, t2⟩ := hs
      generalize s.1 = v9 at t1 ⊢
      generalize s.2 = v10 at t2 ⊢
      subst t1 t2
      obtain ⟨p1, p2, p3⟩ := gS_at (g := g) h6
      have f0 : gS g (cn (g 0)) 0 = g 0 := p2 0 (by omega) (fun q hq => by omega)
      refine ⟨v672 (n := 0) (by omega), if_y ?_ (tm_clear (c := cmN g (cn (g 0))) (h0 := fun k => kq g 11 k - shr (kq g 11) (n0 g) k) (w0 := fun k => cn (g (16 + k))) (lp := cn (g 7)) ?_ u1 (fun k hk => ?_) p1 (fun k hk => ?_) (cmN_500 hI (Nat.le_refl _)) ?_)⟩
      · show gS g (cn (g 0)) 0 ≤ _
        rw [f0]
        conv => lhs; rw [em]
        exact nI_le (Nat.le_refl _) (by omega)
      · rw [p2 7 (by omega) (fun q hq => by omega)]; exact s1
      · have := fil_in (f := come) (b := 0) (k := 5) (v := fun k => nI (cmN g (cn (g 0)) k)) hk
        rw [Nat.zero_add] at this
        exact this
      · rw [p2 (16 + k) (by omega) (fun q hq => by omega)]; exact (hK.1 k hk).2.1
      · exact h _ _
    · intro n i s hi hs hk
      obtain ⟨t1, t2⟩ := hs
      generalize s.1 = v9 at t1 ⊢
      generalize s.2 = v10 at t2 ⊢
      subst t1 t2
      have e1 : nI i + 1 = nI (i + 1) := nI_1 i
      obtain ⟨p1, p2, p3⟩ := gS_at (g := g) (show i ≤ 6 by omega)
      have f0 : gS g i 0 = g 0 := p2 0 (by omega) (fun q hq => by omega)
      have hc : ∀ k, k < 5 → fil come 0 5 (fun k => nI (cmN g i k)) k = nI (cmN g i k) := fun k hk => by
        have := fil_in (f := come) (b := 0) (k := 5) (v := fun k => nI (cmN g i k)) hk
        rw [Nat.zero_add] at this
        exact this
      refine ⟨v672 (n := 0) (by omega), if_n ?_ ⟨vp_in_nI (n := 0) (by omega) (by omega), vp_in_nI (n := 1) (by omega) (by omega), vp_in_nI (n := 2) (by omega) (by omega), vp_in_nI (n := 3) (by omega) (by omega), vp_in_nI (n := 4) (by omega) (by omega), ?_⟩⟩
      · show ¬ gS g i 0 ≤ _
        rw [f0]
        conv => arg 1; lhs; rw [em]
        exact nI_ge hi (by omega)
      · intro x hx
        have ex : x = nI (s5 (cmN g i)) := by
          rw [hx]
          exact i5_nI (f := fil come 0 5 (fun k => nI (cmN g i k))) (a := 0) (q := cmN g i) (fun k hk => by rw [Nat.zero_add]; exact hc k hk)
        subst ex
        refine tm_sort (c := cmN g i) (e := fun k => cn (g (31 + 11 * i + k))) (Inv_M hI) f0 (fun x hx j hj => p2 _ (by omega) (fun q hq => by omega)) hi hc (fun k hk => ?_) (cmN_500 hI (by omega)) ?_
        · rw [p2 _ (by omega) (fun q hq => by omega)]; exact hK.2.1 i hi k hk
        · intro y hy
          rw [hy, e1]
          refine pr_k hk rfl ?_
          exact fil_over
  · intro n i s hi hs hk
    subst hs
    have e1 : nI i + 1 = nI (i + 1) := nI_1 i
    refine if_n (nI_ge (a := i) (b := 5) hi (by omega)) ⟨vp_in_nI hi (by omega), vp_in_nI hi (by omega), ?_⟩
    intro y hy
    rw [hy, e1, nI_clamp (by omega)]
    refine hk _ ?_
    have h1 := fil_s come 0 i (fun k => nI (shr (kq g 11) (n0 g) k))
    have h2 := fil_in (f := part) (b := 0) (k := 5) (v := fun k => nI (shr (kq g 11) (n0 g) k)) hi
    rw [Nat.zero_add] at h1 h2
    show upd _ i (fil part 0 5 (fun k => nI (shr (kq g 11) (n0 g) k)) i) = _
    rw [h2]
    exact h1
theorem tm_sort_1 {m : Nat} {G C : XRow} {c e : Nat → Nat} {kk : Int32 → XRow → XRow → Prop} (hI : IM g) (hG0 : G 0 = g 0) (hG : ∀ m, m < cn (g 0) → ∀ j, j < 5 → G (26 + 11 * m + j) = g (26 + 11 * m + j)) (hm : m < cn (g 0)) (hc : ∀ k, k < 5 → C k = nI (c k)) (he : ∀ k, k < 5 → G (31 + 11 * m + k) = nI (e k)) (h500 : s5 c ≤ 500) (h : kk 5 (fil G (31 + 11 * m) 5 (fun k => nI (e k + gsN g m c k))) (fil C 0 5 (fun k => nI (c k - gsN g m c k)))) : ∃ fl, wp_X9_passes_L110_1 (nI (s5 c)) (nI m) kk fl 0 G C := by
  have h6 := (IM_mc hI).2
  have eF : ∀ x y i, fil C 0 i x (0 + y) = fil C 0 i x y := fun x y i => by rw [Nat.zero_add]
  refine loop_0 (fun n i (s : XRow × XRow) => wp_X9_passes_L110_1 (nI (s5 c)) (nI m) kk n (nI i) s.1 s.2) (fun i s => s.1 = fil G (31 + 11 * m) i (fun k => nI (e k + gsN g m c k)) ∧ s.2 = fil C 0 i (fun k => nI (c k - gsN g m c k))) 5 (G, C) ⟨(fil_0 _ _ _).symm, (fil_0 _ _ _).symm⟩ ?_ ?_
  · intro n s hs
    obtain ⟨t1, t2⟩ := hs
    refine if_y (nI_le (a := 5) (b := 5) (by omega) (by omega)) ?_
    show kk (nI 5) s.1 s.2
    rw [t1, t2]
    exact h
  · intro n i s hi hs hk
    obtain ⟨t1, t2⟩ := hs
    generalize s.1 = v13 at t1 ⊢
    generalize s.2 = v14 at t2 ⊢
    subst t1 t2
    have e1 : nI i + 1 = nI (i + 1) := nI_1 i
    have e5 : (5 : Int32) + nI i = nI (5 + i) := nI_add 5 i
    have hci : c i ≤ 500 := by have := s5_ge c i hi; omega
    have hrt := rtN_le hI hm (s5 c) i
    have h5 := mul100 hci hrt
    have hg : gsN g m c i ≤ c i := gsN_le hI hm c i
    have hfar : ∀ x j, j < 5 → x < cn (g 0) → fil G (31 + 11 * m) i (fun k => nI (e k + gsN g m c k)) (26 + 11 * x + j) = g (26 + 11 * x + j) := fun x j hj hx => by
      rw [fil_out (by omega)]; exact hG x hx j hj
    have hI2 : IM (fil G (31 + 11 * m) i (fun k => nI (e k + gsN g m c k))) := IM_eq (g := g) (by rw [fil_out (by omega)]; exact hG0) (fun x hx j hj => hfar x j hj hx) hI
    have hm2 : m < cn (fil G (31 + 11 * m) i (fun k => nI (e k + gsN g m c k)) 0) := by rw [fil_out (by omega), hG0]; exact hm
    obtain ⟨r1, r2⟩ := rates_eq (g := g) (g' := fil G (31 + 11 * m) i (fun k => nI (e k + gsN g m c k))) (m := m) (fun j hj => hfar m j hj hm) (s5 c)
    have hci2 : fil C 0 i (fun k => nI (c k - gsN g m c k)) i = nI (c i) := by
      have := fil_out (f := C) (b := 0) (k := i) (v := fun k => nI (c k - gsN g m c k)) (j := i) (by omega)
      rw [this]; exact hc i hi
    have hei : fil G (31 + 11 * m) i (fun k => nI (e k + gsN g m c k)) (31 + 11 * m + i) = nI (e i) := by
      rw [fil_out (by omega)]; exact he i hi
    have tail : ∀ r : Nat, r = rtN g m (s5 c) i → ∀ x : Int32, x = (fil C 0 i (fun k => nI (c k - gsN g m c k)) (nI i).toNatClampNeg * nI r) / 100 → wp_X9_machineAt (nI m) (5 + nI i) (fun u22 : Int32 => vp_in u22 672 ∧ (vp_in u22 672 ∧ (vp_in (nI i) 5 ∧ (vp_in (nI i) 5 ∧ (∀ x23 : Int32, x23 = nI i + 1 → (wp_X9_passes_L110_1 (nI (s5 c)) (nI m) kk n x23 (upd (fil G (31 + 11 * m) i (fun k => nI (e k + gsN g m c k))) (u22).toNatClampNeg ((fil G (31 + 11 * m) i (fun k => nI (e k + gsN g m c k)) (u22).toNatClampNeg) + x)) (upd (fil C 0 i (fun k => nI (c k - gsN g m c k))) (nI i).toNatClampNeg ((fil C 0 i (fun k => nI (c k - gsN g m c k)) (nI i).toNatClampNeg) - x)))))))) := fun r hr x hx => by
      subst hr
      rw [nI_clamp (by omega), hci2, pk_mul, show (100 : Int32) = nI 100 from rfl, pk_div (by omega) (by omega) (by omega)] at hx
      replace hx : x = nI (gsN g m c i) := hx
      subst hx
      refine tm_mAt (m := m) (w := 5 + i) rfl e5 ⟨v672 (by omega), v672 (by omega), vp_in_nI hi (by omega), vp_in_nI hi (by omega), ?_⟩
      intro y hy
      rw [hy, e1, tn_nI (by omega), nI_clamp (by omega), show 26 + 11 * m + (5 + i) = 31 + 11 * m + i by omega, hei, hci2, nI_add, pk_sub hg]
      refine pr_k hk ?_ ?_
      · exact fil_s G (31 + 11 * m) i (fun k => nI (e k + gsN g m c k))
      · have := fil_s C 0 i (fun k => nI (c k - gsN g m c k))
        rw [Nat.zero_add] at this
        exact this
    refine if_n (nI_ge (a := i) (b := 5) hi (by omega)) ⟨vp_in_nI hi (by omega), tm_mAt (m := m) (w := 0) rfl rfl ⟨v672 (by omega), ?_⟩⟩
    rw [tn_nI (by omega), hfar m 0 (by omega) hm, Nat.add_zero]
    refine ⟨fun ht => tm_catches hI2 hm2 rfl rfl (by omega) ?_, fun ht => tm_mistakes hI2 hm2 rfl rfl (by omega) ?_⟩
    · rw [r1]
      exact tail _ (by unfold rtN; rw [if_pos ht])
    · rw [r2]
      exact tail _ (by unfold rtN; rw [if_neg ht])
theorem tm_clear_1 {G C : XRow} {c h0 w0 : Nat → Nat} {lp : Nat} {kk : Int32 → XRow → Prop} (hl : G 7 = nI lp) (hlp : lp ≤ 100) (hc : ∀ k, k < 5 → C k = nI (c k)) (hh : ∀ k, k < 5 → G (11 + k) = nI (h0 k)) (hw : ∀ k, k < 5 → G (16 + k) = nI (w0 k)) (h500 : s5 c ≤ 500) (h : kk 5 (fil (fil G 11 5 (fun k => nI (h0 k + c k * lp / 100))) 16 5 (fun k => nI (w0 k + (c k - c k * lp / 100))))) : ∃ fl, wp_X9_passes_L203_1 C kk fl 0 G := by
  refine loop_0 (fun n i (s : XRow) => wp_X9_passes_L203_1 C kk n (nI i) s) (fun i s => s = fil (fil G 11 i (fun k => nI (h0 k + c k * lp / 100))) 16 i (fun k => nI (w0 k + (c k - c k * lp / 100)))) 5 G (by rw [fil_0, fil_0]) ?_ ?_
  · intro n s hs
    subst hs
    exact if_y (nI_le (a := 5) (b := 5) (by omega) (by omega)) h
  · intro n i s hi hs hk
    subst hs
    have e1 : nI i + 1 = nI (i + 1) := nI_1 i
    have hci : c i ≤ 500 := by have := s5_ge c i hi; omega
    have h5 := mul100 hci hlp
    have hb : c i * lp / 100 ≤ c i := by have := Nat.mul_le_mul_left (c i) hlp; omega
    refine if_n (nI_ge (a := i) (b := 5) hi (by omega)) ⟨vp_in_nI hi (by omega), v672 (n := 7) (by omega), ?_⟩
    rw [a11, a16, nI_clamp (n := i) (by omega), tn_nI (by omega), tn_nI (by omega), hc i hi, show (7 : Int32).toNatClampNeg = 7 from rfl, fil_out (j := 7) (by omega), fil_out (j := 7) (by omega), hl]
    intro x hx
    have ex : x = nI (c i * lp / 100) := by
      rw [hx, pk_mul, show (100 : Int32) = nI 100 from rfl, pk_div (by omega) (by omega) (by omega)]
    subst ex
    refine ⟨v672 (by omega), v672 (by omega), v672 (by omega), vp_in_nI hi (by omega), v672 (by omega), ?_⟩
    intro y hy
    rw [hy, e1, fil_out (j := 11 + i) (by omega), fil_out (j := 11 + i) (by omega), hh i hi, nI_add, pk_sub hb, un (show 16 + i ≠ 11 + i by omega), fil_out (j := 16 + i) (by omega), fil_out (j := 16 + i) (by omega), hw i hi, nI_add]
    exact hk _ (fil2_s (v := fun k => nI (h0 k + c k * lp / 100)) (w := fun k => nI (w0 k + (c k - c k * lp / 100))) (by omega) hi)
/-- the reference's pass up to the bales -/
theorem tm_belt1_1 {part come : XRow} {post : XRow × XRow × XRow → Prop} (hI : Inv b g) (hb : b ≤ 600) (h : ∀ part' come', ∃ fl, wp_X9_passes_L267_1 (fun (_ : Int32) (v49 : XRow) (v50 : XRow) => vp_in 4 672 ∧ (vp_in 4 672 ∧ (post (upd v49 ((4 : Int32).toNatClampNeg) ((v49 ((4 : Int32).toNatClampNeg)) + 1), v50, come')))) fl 0 (gC g) part') : wp_X9_takes g part 11 (nI (n0 g)) (fun u2 : XRow × XRow => ∃ fl, wp_X9_passes_L37_1 u2 (fun (_ : Int32) (v7 : XRow) => ∃ fl, wp_X9_passes_L62_1 (fun (_ : Int32) (v29 : XRow) (v30 : XRow) => ∃ fl, wp_X9_passes_L203_1 v30 (fun (_ : Int32) (v36 : XRow) => ∃ fl, wp_X9_passes_L267_1 (fun (_ : Int32) (v49 : XRow) (v50 : XRow) => vp_in 4 672 ∧ (vp_in 4 672 ∧ (post (upd v49 ((4 : Int32).toNatClampNeg) ((v49 ((4 : Int32).toNatClampNeg)) + 1), v50, v30)))) fl 0 v36 u2.2) fl 0 v29) fl 0 u2.1 v7) fl 0 come) := by
  obtain ⟨em, h6⟩ := IM_mc (Inv_M hI)
  obtain ⟨s1, l1, u1⟩ := ok_cn (Inv_S hI).2.1 (by omega)
  have hK := Inv_K hI
  have htot := hK.2.2.1
  have hq : ∀ k, k < 5 → g (11 + k) = nI (kq g 11 k) := fun k hk => (hK.1 k hk).1
  have hs5 : s5 (kq g 11) ≤ 999 * b := by unfold tot at htot; omega
  have hm31 : ∀ k, k < 5 → kq g 11 k * n0 g < 2 ^ 31 := fun k hk => by
    have a1 := s5_ge (kq g 11) k hk
    have a2 := n0_500 (Inv_S hI)
    have := Nat.mul_le_mul (show kq g 11 k ≤ 600000 by omega) a2
    omega
  refine tq_takes (a := 11) (q := kq g 11) (n := n0 g) rfl rfl hq (by omega) hm31 (by omega) (n0_le g) ?_
  refine loop_0 (fun n i (s : XRow) => wp_X9_passes_L37_1 (fil g 11 5 (fun k => nI (kq g 11 k - shr (kq g 11) (n0 g) k)), fil part 0 5 (fun k => nI (shr (kq g 11) (n0 g) k))) (fun (_ : Int32) (v7 : XRow) => ∃ fl, wp_X9_passes_L62_1 (fun (_ : Int32) (v29 : XRow) (v30 : XRow) => ∃ fl, wp_X9_passes_L203_1 v30 (fun (_ : Int32) (v36 : XRow) => ∃ fl, wp_X9_passes_L267_1 (fun (_ : Int32) (v49 : XRow) (v50 : XRow) => vp_in 4 672 ∧ (vp_in 4 672 ∧ (post (upd v49 ((4 : Int32).toNatClampNeg) ((v49 ((4 : Int32).toNatClampNeg)) + 1), v50, v30)))) fl 0 v36 (fil part 0 5 (fun k => nI (shr (kq g 11) (n0 g) k)))) fl 0 v29) fl 0 (fil g 11 5 (fun k => nI (kq g 11 k - shr (kq g 11) (n0 g) k))) v7) n (nI i) s) (fun i s => s = fil come 0 i (fun k => nI (shr (kq g 11) (n0 g) k))) 5 come (fil_0 _ _ _).symm ?_ ?_
  · intro n s hs
    subst hs
    refine if_y (nI_le (a := 5) (b := 5) (by omega) (by omega)) ?_
    refine loop_0 (fun n i (s : XRow × XRow) => wp_X9_passes_L62_1 (fun (_ : Int32) (v29 : XRow) (v30 : XRow) => ∃ fl, wp_X9_passes_L203_1 v30 (fun (_ : Int32) (v36 : XRow) => ∃ fl, wp_X9_passes_L267_1 (fun (_ : Int32) (v49 : XRow) (v50 : XRow) => vp_in 4 672 ∧ (vp_in 4 672 ∧ (post (upd v49 ((4 : Int32).toNatClampNeg) ((v49 ((4 : Int32).toNatClampNeg)) + 1), v50, v30)))) fl 0 v36 (fil part 0 5 (fun k => nI (shr (kq g 11) (n0 g) k)))) fl 0 v29) n (nI i) s.1 s.2) (fun i s => s.1 = gS g i ∧ s.2 = fil come 0 5 (fun k => nI (cmN g i k))) (cn (g 0)) (_, _) ⟨rfl, rfl⟩ ?_ ?_
    · intro n s hs
      obtain ⟨t1, t2⟩ := hs
      generalize s.1 = v9 at t1 ⊢
      generalize s.2 = v10 at t2 ⊢
      subst t1 t2
      obtain ⟨p1, p2, p3⟩ := gS_at (g := g) h6
      have f0 : gS g (cn (g 0)) 0 = g 0 := p2 0 (by omega) (fun q hq => by omega)
      refine ⟨v672 (n := 0) (by omega), if_y ?_ (tm_clear_1 (c := cmN g (cn (g 0))) (h0 := fun k => kq g 11 k - shr (kq g 11) (n0 g) k) (w0 := fun k => cn (g (16 + k))) (lp := cn (g 7)) ?_ u1 (fun k hk => ?_) p1 (fun k hk => ?_) (cmN_500 hI (Nat.le_refl _)) ?_)⟩
      · show gS g (cn (g 0)) 0 ≤ _
        rw [f0]
        conv => lhs; rw [em]
        exact nI_le (Nat.le_refl _) (by omega)
      · rw [p2 7 (by omega) (fun q hq => by omega)]; exact s1
      · have := fil_in (f := come) (b := 0) (k := 5) (v := fun k => nI (cmN g (cn (g 0)) k)) hk
        rw [Nat.zero_add] at this
        exact this
      · rw [p2 (16 + k) (by omega) (fun q hq => by omega)]; exact (hK.1 k hk).2.1
      · exact h _ _
    · intro n i s hi hs hk
      obtain ⟨t1, t2⟩ := hs
      generalize s.1 = v9 at t1 ⊢
      generalize s.2 = v10 at t2 ⊢
      subst t1 t2
      have e1 : nI i + 1 = nI (i + 1) := nI_1 i
      obtain ⟨p1, p2, p3⟩ := gS_at (g := g) (show i ≤ 6 by omega)
      have f0 : gS g i 0 = g 0 := p2 0 (by omega) (fun q hq => by omega)
      have hc : ∀ k, k < 5 → fil come 0 5 (fun k => nI (cmN g i k)) k = nI (cmN g i k) := fun k hk => by
        have := fil_in (f := come) (b := 0) (k := 5) (v := fun k => nI (cmN g i k)) hk
        rw [Nat.zero_add] at this
        exact this
      refine ⟨v672 (n := 0) (by omega), if_n ?_ ⟨vp_in_nI (n := 0) (by omega) (by omega), vp_in_nI (n := 1) (by omega) (by omega), vp_in_nI (n := 2) (by omega) (by omega), vp_in_nI (n := 3) (by omega) (by omega), vp_in_nI (n := 4) (by omega) (by omega), ?_⟩⟩
      · show ¬ gS g i 0 ≤ _
        rw [f0]
        conv => arg 1; lhs; rw [em]
        exact nI_ge hi (by omega)
      · intro x hx
        have ex : x = nI (s5 (cmN g i)) := by
          rw [hx]
          exact i5_nI (f := fil come 0 5 (fun k => nI (cmN g i k))) (a := 0) (q := cmN g i) (fun k hk => by rw [Nat.zero_add]; exact hc k hk)
        subst ex
        refine tm_sort_1 (c := cmN g i) (e := fun k => cn (g (31 + 11 * i + k))) (Inv_M hI) f0 (fun x hx j hj => p2 _ (by omega) (fun q hq => by omega)) hi hc (fun k hk => ?_) (cmN_500 hI (by omega)) ?_
        · rw [p2 _ (by omega) (fun q hq => by omega)]; exact hK.2.1 i hi k hk
        · intro y hy
          rw [hy, e1]
          refine pr_k hk rfl ?_
          exact fil_over
  · intro n i s hi hs hk
    subst hs
    have e1 : nI i + 1 = nI (i + 1) := nI_1 i
    refine if_n (nI_ge (a := i) (b := 5) hi (by omega)) ⟨vp_in_nI hi (by omega), vp_in_nI hi (by omega), ?_⟩
    intro y hy
    rw [hy, e1, nI_clamp (by omega)]
    refine hk _ ?_
    have h1 := fil_s come 0 i (fun k => nI (shr (kq g 11) (n0 g) k))
    have h2 := fil_in (f := part) (b := 0) (k := 5) (v := fun k => nI (shr (kq g 11) (n0 g) k)) hi
    rw [Nat.zero_add] at h1 h2
    show upd _ i (fil part 0 5 (fun k => nI (shr (kq g 11) (n0 g) k)) i) = _
    rw [h2]
    exact h1
theorem tm_belt {part come : XRow} {post : XRow × XRow × XRow → Prop} (hI : Inv b g) (hb : b ≤ 600) (h : ∀ part' come', ∃ fl, wp_X9_passes_L267 (fun (_ : Int32) (v49 : XRow) (v50 : XRow) => vp_in 4 672 ∧ (vp_in 4 672 ∧ (post (upd v49 ((4 : Int32).toNatClampNeg) ((v49 ((4 : Int32).toNatClampNeg)) + 1), v50, come')))) fl 0 (gC g) part') (h' : ∀ part' come', ∃ fl, wp_X9_passes_L267_1 (fun (_ : Int32) (v49 : XRow) (v50 : XRow) => vp_in 4 672 ∧ (vp_in 4 672 ∧ (post (upd v49 ((4 : Int32).toNatClampNeg) ((v49 ((4 : Int32).toNatClampNeg)) + 1), v50, come')))) fl 0 (gC g) part') : wp_X9_passes g part come post := by
  obtain ⟨s0, l0, u0⟩ := ok_cn (Inv_S hI).1 (by omega)
  have hK := Inv_K hI
  have htot := hK.2.2.1
  have hs5 : s5 (kq g 11) ≤ 999 * b := by unfold tot at htot; omega
  refine tq_sum (a := 11) rfl (by omega) ?_
  rw [i5_g (fun k hk => (hK.1 k hk).1)]
  refine ⟨v672 (n := 6) (by omega), pk_le (cn (g 6)) (s5 (kq g 11)) (fun hle => ⟨v672 (n := 6) (by omega), ?_⟩) (fun hlt => ?_) s0 rfl⟩
  · have e : g ((6 : Int32).toNatClampNeg) = nI (n0 g) := by
      show g 6 = _
      unfold n0
      rw [Nat.min_eq_left hle]
      exact s0
    rw [e]
    exact tm_belt1 hI hb h
  · have e : nI (s5 (kq g 11)) = nI (n0 g) := by
      unfold n0
      rw [Nat.min_eq_right (by omega)]
    rw [e]
    exact tm_belt1_1 hI hb h'
end PB
