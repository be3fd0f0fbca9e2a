/-! ===== level 2: changes of a few numbers, both sides ===== -/
def slo (w : Nat) : Nat := match w with | 0 => 1 | 1 => 0 | 2 => 10 | 3 => 1 | _ => 0
def shi (w : Nat) : Nat := match w with | 0 => 500 | 1 => 100 | 2 => 200 | 3 => 50 | _ => 1
def mlo (w : Nat) : Nat := match w with | 0 => 0 | 1 => 10 | 2 => 0 | 3 => 1 | _ => 0
def mhi (w : Nat) : Nat := match w with | 0 => 4 | 1 => 100 | 2 => 90 | 3 => 500 | _ => 9
theorem tc_fit23 {w : Nat} {p1 : Int32} {post : Bool → Prop} (hw : w < 5) (h : post (wi p1 (nI (slo w)) (nI (shi w)))) : wp_X8_isFitting_s2_s3 (nI w) p1 post := by
  refine if_n (nI_pos (by omega)) (if_n (nI_ge (a := w) (b := 5) hw (by omega)) (if_n (nI_ge (a := w) (b := 5) hw (by omega)) ⟨vp_in_nI hw (by omega), vp_in_nI hw (by omega), tw_wi ?_⟩))
  rw [nI_clamp (by omega)]
  rcases (show w = 0 ∨ w = 1 ∨ w = 2 ∨ w = 3 ∨ w = 4 by omega) with rfl | rfl | rfl | rfl | rfl
  all_goals
    revert h
    dsimp only [slo, shi, xArrV, List.getD_cons_zero, List.getD_cons_succ]
    intro h
  · show ((wi p1 1 500 = true → post true) ∧ (wi p1 1 500 = false → post false))
    replace h : post (wi p1 1 500) := h
    cases hc : wi p1 1 500 <;> rw [hc] at h
    · exact bb_f rfl h
    · exact bb_t rfl h
  · show ((wi p1 0 100 = true → post true) ∧ (wi p1 0 100 = false → post false))
    replace h : post (wi p1 0 100) := h
    cases hc : wi p1 0 100 <;> rw [hc] at h
    · exact bb_f rfl h
    · exact bb_t rfl h
  · show ((wi p1 10 200 = true → post true) ∧ (wi p1 10 200 = false → post false))
    replace h : post (wi p1 10 200) := h
    cases hc : wi p1 10 200 <;> rw [hc] at h
    · exact bb_f rfl h
    · exact bb_t rfl h
  · show ((wi p1 1 50 = true → post true) ∧ (wi p1 1 50 = false → post false))
    replace h : post (wi p1 1 50) := h
    cases hc : wi p1 1 50 <;> rw [hc] at h
    · exact bb_f rfl h
    · exact bb_t rfl h
  · show ((wi p1 0 1 = true → post true) ∧ (wi p1 0 1 = false → post false))
    replace h : post (wi p1 0 1) := h
    cases hc : wi p1 0 1 <;> rw [hc] at h
    · exact bb_f rfl h
    · exact bb_t rfl h
theorem tc_fit01 {w : Nat} {p1 : Int32} {post : Bool → Prop} (hw : w < 5) (h : post (wi p1 (nI (mlo w)) (nI (mhi w)))) : wp_X8_isOfMachine (nI w) p1 post := by
  refine if_n (nI_pos (by omega)) (if_n (nI_ge (a := w) (b := 5) hw (by omega)) (if_n (nI_ge (a := w) (b := 5) hw (by omega)) ⟨vp_in_nI hw (by omega), vp_in_nI hw (by omega), tw_wi ?_⟩))
  rw [nI_clamp (by omega)]
  rcases (show w = 0 ∨ w = 1 ∨ w = 2 ∨ w = 3 ∨ w = 4 by omega) with rfl | rfl | rfl | rfl | rfl
  · show ((wi p1 0 4 = true → post true) ∧ (wi p1 0 4 = false → post false))
    replace h : post (wi p1 0 4) := h
    cases hc : wi p1 0 4 <;> rw [hc] at h
    · exact bb_f rfl h
    · exact bb_t rfl h
  · show ((wi p1 10 100 = true → post true) ∧ (wi p1 10 100 = false → post false))
    replace h : post (wi p1 10 100) := h
    cases hc : wi p1 10 100 <;> rw [hc] at h
    · exact bb_f rfl h
    · exact bb_t rfl h
  · show ((wi p1 0 90 = true → post true) ∧ (wi p1 0 90 = false → post false))
    replace h : post (wi p1 0 90) := h
    cases hc : wi p1 0 90 <;> rw [hc] at h
    · exact bb_f rfl h
    · exact bb_t rfl h
  · show ((wi p1 1 500 = true → post true) ∧ (wi p1 1 500 = false → post false))
    replace h : post (wi p1 1 500) := h
    cases hc : wi p1 1 500 <;> rw [hc] at h
    · exact bb_f rfl h
    · exact bb_t rfl h
  · show ((wi p1 0 9 = true → post true) ∧ (wi p1 0 9 = false → post false))
    replace h : post (wi p1 0 9) := h
    cases hc : wi p1 0 9 <;> rw [hc] at h
    · exact bb_f rfl h
    · exact bb_t rfl h
theorem tc_fit01x {p0 p1 : Int32} {post : Bool → Prop} (h0 : wi p0 0 4 = false) (h : post false) : wp_X8_isOfMachine p0 p1 post := by
  have key : p0 < 0 ∨ (¬ p0 < 0 ∧ (5 : Int32) ≤ p0) := by
    by_cases h1 : p0 < 0
    · exact Or.inl h1
    · refine Or.inr ⟨h1, ?_⟩
      obtain ⟨j, hj, rfl⟩ := nI_of h1
      rcases Nat.lt_or_ge j 5 with h5 | h5
      · have := wi_nI (k := j) (lo := 0) (hi := 4) (by omega) (by omega) (by omega)
        rw [show nI 0 = 0 from rfl, show nI 4 = 4 from rfl, h0] at this
        exact Bool.noConfusion this
      · exact nI_le h5 hj
  rcases key with h1 | ⟨h1, h2⟩
  · exact if_y h1 h
  · exact if_n h1 (if_y h2 h)
theorem tm_maySet {w : Nat} {p1 : Int32} {post : Bool → Prop} (hw : w < 5) (h : post (wi p1 (nI (slo w)) (nI (shi w)))) : wp_X9_maySet (nI w) p1 post := by
  rcases (show w = 0 ∨ w = 1 ∨ w = 2 ∨ w = 3 ∨ w = 4 by omega) with rfl | rfl | rfl | rfl | rfl
  · exact if_y rfl (tw_in h)
  · exact if_n (by decide) (if_y rfl (tw_in h))
  · exact if_n (by decide) (if_n (by decide) (if_y rfl (tw_in h)))
  · exact if_n (by decide) (if_n (by decide) (if_n (by decide) (if_y rfl (tw_in h))))
  · exact if_n (by decide) (if_n (by decide) (if_n (by decide) (if_n (by decide) (tw_in h))))
theorem tm_mayBe {w : Nat} {p1 : Int32} {post : Bool → Prop} (hw : w < 5) (h : post (wi p1 (nI (mlo w)) (nI (mhi w)))) : wp_X9_mayBe (nI w) p1 post := by
  rcases (show w = 0 ∨ w = 1 ∨ w = 2 ∨ w = 3 ∨ w = 4 by omega) with rfl | rfl | rfl | rfl | rfl
  · exact if_y rfl (tw_in h)
  · exact if_n (by decide) (if_y rfl (tw_in h))
  · exact if_n (by decide) (if_n (by decide) (if_y rfl (tw_in h)))
  · exact if_n (by decide) (if_n (by decide) (if_n (by decide) (if_y rfl (tw_in h))))
  · refine if_n (by decide) (if_n (by decide) (if_n (by decide) (if_n (by decide) (if_y rfl (tw_in ?_)))))
    replace h : post (wi p1 0 9) := h
    cases hc : wi p1 0 9 <;> rw [hc] at h
    · exact bb_f rfl h
    · exact bb_t rfl h
theorem tm_mayBex {p0 p1 : Int32} {post : Bool → Prop} (h0 : wi p0 0 4 = false) (h : post false) : wp_X9_mayBe p0 p1 post := by
  have ne : ∀ j : Nat, j < 5 → ¬ p0 = nI j := fun j hj e => by
    subst e
    have := wi_nI (k := j) (lo := 0) (hi := 4) (by omega) (by omega) (by omega)
    rw [show nI 0 = 0 from rfl, show nI 4 = 4 from rfl, h0] at this
    exact Bool.noConfusion this
  exact if_n (ne 0 (by omega)) (if_n (ne 1 (by omega)) (if_n (ne 2 (by omega)) (if_n (ne 3 (by omega)) (if_n (ne 4 (by omega)) h))))
section OP
variable {b : Nat} {d : PD} {g : XRow}
theorem un {f : XRow} {k j : Nat} {x : Int32} (h : j ≠ k) : upd f k x j = f j := if_neg h
/-- most of what stands in a row stays -/
theorem Inv_far {g' : XRow} (hI : Inv b g) (h1 : IS g') (h2 : IM g') (h3 : IK b g') (hc : ∀ j, (2 ≤ j ∧ j < 6 ∧ j ≠ 4) ∨ (92 ≤ j ∧ j < 672) → g' j = g j) : Inv b g' := by
  have hcc := (IC_nc (Inv_C hI)).2
  exact ⟨h1, h2, h3, IC_eq (hc 3 (by omega)) (fun j h1 h2 => hc j (by omega)) (Inv_C hI), IB_eq (hc 2 (by omega)) (hc 3 (by omega)) (fun j h1 h2 => hc j (by omega)) (Inv_B hI), IP_eq (Inv_B hI) (Inv_C hI) (hc 5 (by omega)) (hc 2 (by omega)) (fun j h1 h2 => hc j (by omega)) (fun c hc2 => hc _ (by omega)) (Inv_P hI)⟩
theorem Rel_set {w : Nat} {v : Int32} (hR : Rel b d g) (hw : w < 5) (hv : ok v (slo w) (shi w)) : Rel b (upd d.1 w v, d.2) (upd g (6 + w) v) := by
  obtain ⟨hI, hS, hM, hP, hN, e1, hC, e2, e3, e4, e5⟩ := hR
  have h6 := (IM_mc (Inv_M hI)).2
  have hcc := (IC_nc (Inv_C hI)).2
  have hbb := (IB_nb (Inv_B hI)).2
  have far : ∀ j, j ≠ 6 + w → upd g (6 + w) v j = g j := fun j hj => un hj
  have f0 := far 0 (by omega)
  refine ⟨Inv_far hI ?_ (IM_eq f0 (fun m hm j hj => far _ (by omega)) (Inv_M hI)) (IK_eq f0 (fun j _ _ => far j (by omega)) (fun m hm k hk => far _ (by omega)) (Inv_K hI)) (fun j hj => far j (by omega)), ?_, RM_eq f0 (fun m hm j hj => far _ (by omega)) (fun m hm => far _ (by omega)) hM, RP_eq f0 (fun j _ _ => far j (by omega)) (fun m hm k hk => far _ (by omega)) hP, RN_eq (Inv_B hI) (far 2 (by omega)) (fun j _ _ => far j (by omega)) hN, ?_, RC_eq hcc (far 3 (by omega)) (fun j _ _ => far j (by omega)) hC, ?_, ?_, ?_, ?_⟩
  · obtain ⟨s0, s1, s2, s3, s4⟩ := Inv_S hI
    rcases (show w = 0 ∨ w = 1 ∨ w = 2 ∨ w = 3 ∨ w = 4 by omega) with rfl | rfl | rfl | rfl | rfl
    · exact ⟨hv, s1, s2, s3, s4⟩
    · exact ⟨s0, hv, s2, s3, s4⟩
    · exact ⟨s0, s1, hv, s3, s4⟩
    · exact ⟨s0, s1, s2, hv, s4⟩
    · exact ⟨s0, s1, s2, s3, hv⟩
  · intro j hj
    show upd d.1 w v j = upd g (6 + w) v (6 + j)
    by_cases h : j = w
    · subst h; rw [pk_us, pk_us]
    · rw [un h, un (by omega)]; exact hS j hj
  · rw [far 2 (by omega)]; exact e1
  · rw [far 3 (by omega)]; exact e2
  · rw [far 0 (by omega)]; exact e3
  · rw [far 1 (by omega)]; exact e4
  · rw [far 4 (by omega)]; exact e5
theorem Rel_seed {z : Int32} (hR : Rel b d g) : Rel b (d.1, d.2.1, d.2.2.1, d.2.2.2.1, d.2.2.2.2.1, d.2.2.2.2.2.1, d.2.2.2.2.2.2.1, d.2.2.2.2.2.2.2.1, d.2.2.2.2.2.2.2.2.1, d.2.2.2.2.2.2.2.2.2.1, z, d.2.2.2.2.2.2.2.2.2.2.2) (upd g 1 z) := by
  obtain ⟨hI, hS, hM, hP, hN, e1, hC, e2, e3, e4, e5⟩ := hR
  have h6 := (IM_mc (Inv_M hI)).2
  have hcc := (IC_nc (Inv_C hI)).2
  have far : ∀ j, j ≠ 1 → upd g 1 z j = g j := fun j hj => un hj
  have f0 := far 0 (by omega)
  refine ⟨Inv_far hI (IS_eq (fun j _ _ => far j (by omega)) (Inv_S hI)) (IM_eq f0 (fun m hm j hj => far _ (by omega)) (Inv_M hI)) (IK_eq f0 (fun j _ _ => far j (by omega)) (fun m hm k hk => far _ (by omega)) (Inv_K hI)) (fun j hj => far j (by omega)), RS_eq (fun j _ _ => far j (by omega)) hS, RM_eq f0 (fun m hm j hj => far _ (by omega)) (fun m hm => far _ (by omega)) hM, RP_eq f0 (fun j _ _ => far j (by omega)) (fun m hm k hk => far _ (by omega)) hP, RN_eq (Inv_B hI) (far 2 (by omega)) (fun j _ _ => far j (by omega)) hN, ?_, RC_eq hcc (far 3 (by omega)) (fun j _ _ => far j (by omega)) hC, ?_, ?_, ?_, ?_⟩
  · rw [far 2 (by omega)]; exact e1
  · rw [far 3 (by omega)]; exact e2
  · rw [far 0 (by omega)]; exact e3
  · exact pk_us.symm
  · rw [far 4 (by omega)]; exact e5
theorem Rel_setM {m j : Nat} {v : Int32} (hR : Rel b d g) (hm : m < cn (g 0)) (hj : j < 5) (hv : ok v (mlo j) (mhi j)) : Rel b (d.1, upd d.2.1 (m * 7 + j) v, d.2.2) (upd g (26 + 11 * m + j) v) := by
  obtain ⟨hI, hS, hM, hP, hN, e1, hC, e2, e3, e4, e5⟩ := hR
  have h6 := (IM_mc (Inv_M hI)).2
  have hcc := (IC_nc (Inv_C hI)).2
  have far : ∀ x, x ≠ 26 + 11 * m + j → upd g (26 + 11 * m + j) v x = g x := fun x hx => un hx
  have f0 := far 0 (by omega)
  refine ⟨Inv_far hI (IS_eq (fun x _ _ => far x (by omega)) (Inv_S hI)) ?_ (IK_eq f0 (fun x _ _ => far x (by omega)) (fun m2 hm2 k hk => far _ (by omega)) (Inv_K hI)) (fun x hx => far x (by omega)), RS_eq (fun x _ _ => far x (by omega)) hS, ?_, RP_eq f0 (fun x _ _ => far x (by omega)) (fun m2 hm2 k hk => far _ (by omega)) hP, RN_eq (Inv_B hI) (far 2 (by omega)) (fun x _ _ => far x (by omega)) hN, ?_, RC_eq hcc (far 3 (by omega)) (fun x _ _ => far x (by omega)) hC, ?_, ?_, ?_, ?_⟩
  · refine ⟨by rw [f0]; exact (Inv_M hI).1, fun m2 hm2 => ?_⟩
    rw [f0] at hm2
    by_cases h : m2 = m
    · subst h
      obtain ⟨i0, i1, i2, i3, i4⟩ := (Inv_M hI).2 m2 hm
      rcases (show j = 0 ∨ j = 1 ∨ j = 2 ∨ j = 3 ∨ j = 4 by omega) with rfl | rfl | rfl | rfl | rfl
      · refine ⟨?_, ?_, ?_, ?_, ?_⟩
        · rw [show 26 + 11 * m2 = 26 + 11 * m2 + 0 from rfl, pk_us]; exact hv
        · rw [far _ (by omega)]; exact i1
        · rw [far _ (by omega)]; exact i2
        · rw [far _ (by omega)]; exact i3
        · rw [far _ (by omega)]; exact i4
      · refine ⟨?_, ?_, ?_, ?_, ?_⟩
        · rw [far _ (by omega)]; exact i0
        · rw [show 27 + 11 * m2 = 26 + 11 * m2 + 1 by omega, pk_us]; exact hv
        · rw [far _ (by omega)]; exact i2
        · rw [far _ (by omega)]; exact i3
        · rw [far _ (by omega)]; exact i4
      · refine ⟨?_, ?_, ?_, ?_, ?_⟩
        · rw [far _ (by omega)]; exact i0
        · rw [far _ (by omega)]; exact i1
        · rw [show 28 + 11 * m2 = 26 + 11 * m2 + 2 by omega, pk_us]; exact hv
        · rw [far _ (by omega)]; exact i3
        · rw [far _ (by omega)]; exact i4
      · refine ⟨?_, ?_, ?_, ?_, ?_⟩
        · rw [far _ (by omega)]; exact i0
        · rw [far _ (by omega)]; exact i1
        · rw [far _ (by omega)]; exact i2
        · rw [show 29 + 11 * m2 = 26 + 11 * m2 + 3 by omega, pk_us]; exact hv
        · rw [far _ (by omega)]; exact i4
      · refine ⟨?_, ?_, ?_, ?_, ?_⟩
        · rw [far _ (by omega)]; exact i0
        · rw [far _ (by omega)]; exact i1
        · rw [far _ (by omega)]; exact i2
        · rw [far _ (by omega)]; exact i3
        · rw [show 30 + 11 * m2 = 26 + 11 * m2 + 4 by omega, pk_us]; exact hv
    · exact IM1_eq (fun x hx => far _ (by omega)) ((Inv_M hI).2 m2 hm2)
  · intro m2 hm2
    rw [f0] at hm2
    refine ⟨fun x hx => ?_, ?_⟩
    · show upd d.2.1 (m * 7 + j) v (m2 * 7 + x) = _
      by_cases h : m2 * 7 + x = m * 7 + j
      · have : m2 = m := by omega
        subst this
        have : x = j := by omega
        subst this
        rw [pk_us, pk_us]
      · rw [un h, far _ (by omega)]; exact (hM m2 hm2).1 x hx
    · show upd d.2.1 (m * 7 + j) v (m2 * 7 + 6) = _
      rw [un (by omega), far _ (by omega)]; exact (hM m2 hm2).2
  · rw [far 2 (by omega)]; exact e1
  · rw [far 3 (by omega)]; exact e2
  · rw [far 0 (by omega)]; exact e3
  · rw [far 1 (by omega)]; exact e4
  · rw [far 4 (by omega)]; exact e5
/-! feeding -/
def oFeed (g : XRow) (m : Nat) (x : Int32) : XRow := upd (upd g (11 + m) (g (11 + m) + x)) (21 + m) (g (21 + m) + x)
theorem s5_up {q q' : Nat → Nat} {m n : Nat} (hm : m < 5) (h : q' m = q m + n) (h2 : ∀ k, k < 5 → k ≠ m → q' k = q k) : s5 q' = s5 q + n := by
  unfold s5
  rcases (show m = 0 ∨ m = 1 ∨ m = 2 ∨ m = 3 ∨ m = 4 by omega) with rfl | rfl | rfl | rfl | rfl
  · have := h2 1 (by omega) (by omega); have := h2 2 (by omega) (by omega); have := h2 3 (by omega) (by omega); have := h2 4 (by omega) (by omega); omega
  · have := h2 0 (by omega) (by omega); have := h2 2 (by omega) (by omega); have := h2 3 (by omega) (by omega); have := h2 4 (by omega) (by omega); omega
  · have := h2 0 (by omega) (by omega); have := h2 1 (by omega) (by omega); have := h2 3 (by omega) (by omega); have := h2 4 (by omega) (by omega); omega
  · have := h2 0 (by omega) (by omega); have := h2 1 (by omega) (by omega); have := h2 2 (by omega) (by omega); have := h2 4 (by omega) (by omega); omega
  · have := h2 0 (by omega) (by omega); have := h2 1 (by omega) (by omega); have := h2 2 (by omega) (by omega); have := h2 3 (by omega) (by omega); omega
theorem s5_ge1 {q : Nat → Nat} {k : Nat} (h : k < 5) : q k ≤ s5 q := s5_ge q k h
/-- kilos of one place and material -/
theorem hop_le (hK : IK b g) {k : Nat} (h : k < 5) : cn (g (11 + k)) ≤ 999 * b := by
  have h1 : kq g 11 k ≤ s5 (kq g 11) := s5_ge _ k h
  have h2 := hK.2.2.1
  have : kq g 11 k = cn (g (11 + k)) := rfl
  unfold tot at h2
  omega
theorem fed_le (hK : IK b g) {k : Nat} (h : k < 5) : cn (g (21 + k)) ≤ 999 * b := by
  have h1 : kq g 21 k ≤ s5 (kq g 21) := s5_ge _ k h
  have h2 := hK.2.2.2
  have : kq g 21 k = cn (g (21 + k)) := rfl
  omega
theorem Rel_feed {m n : Nat} (hb : b ≤ 600) (hR : Rel b d g) (hm : m < 5) (hn : n ≤ 999) : Rel (b + 1) (d.1, d.2.1, upd (upd d.2.2.1 (6 * 5 + m) (d.2.2.1 (6 * 5 + m) + nI n)) (8 * 5 + m) (upd d.2.2.1 (6 * 5 + m) (d.2.2.1 (6 * 5 + m) + nI n) (8 * 5 + m) + nI n), d.2.2.2) (oFeed g m (nI n)) := by
  obtain ⟨hI, hS, hM, hP, hN, e1, hC, e2, e3, e4, e5⟩ := hR
  have h6 := (IM_mc (Inv_M hI)).2
  have hcc := (IC_nc (Inv_C hI)).2
  have hK := Inv_K hI
  have hl1 := hop_le hK hm
  have hl2 := fed_le hK hm
  have far : ∀ x, x ≠ 11 + m → x ≠ 21 + m → oFeed g m (nI n) x = g x := fun x h1 h2 => by unfold oFeed; rw [un h2, un h1]
  have v1 : oFeed g m (nI n) (11 + m) = nI (cn (g (11 + m)) + n) := by
    unfold oFeed
    rw [un (by omega), pk_us]
    conv => lhs; rw [show g (11 + m) = nI (cn (g (11 + m))) from (hK.1 m hm).1]
    rw [nI_add]
  have v2 : oFeed g m (nI n) (21 + m) = nI (cn (g (21 + m)) + n) := by
    unfold oFeed
    rw [pk_us]
    conv => lhs; rw [show g (21 + m) = nI (cn (g (21 + m))) from (hK.1 m hm).2.2]
    rw [nI_add]
  have f0 := far 0 (by omega) (by omega)
  have q11 : s5 (kq (oFeed g m (nI n)) 11) = s5 (kq g 11) + n := s5_up hm (by show cn (oFeed g m (nI n) (11 + m)) = cn (g (11 + m)) + n; rw [v1, cn_nI (by omega)]) (fun k hk hne => by show cn (oFeed g m (nI n) (11 + k)) = cn (g (11 + k)); rw [far _ (by omega) (by omega)])
  have q21 : s5 (kq (oFeed g m (nI n)) 21) = s5 (kq g 21) + n := s5_up hm (by show cn (oFeed g m (nI n) (21 + m)) = cn (g (21 + m)) + n; rw [v2, cn_nI (by omega)]) (fun k hk hne => by show cn (oFeed g m (nI n) (21 + k)) = cn (g (21 + k)); rw [far _ (by omega) (by omega)])
  have q16 : s5 (kq (oFeed g m (nI n)) 16) = s5 (kq g 16) := kq_eq (fun k hk => far _ (by omega) (by omega))
  have qb : bsum (oFeed g m (nI n)) (cn (g 0)) = bsum g (cn (g 0)) := bsum_eq (fun m2 hm2 k hk => far _ (by omega) (by omega))
  have hK2 : IK (b + 1) (oFeed g m (nI n)) := by
    refine ⟨fun k hk => ⟨?_, ?_, ?_⟩, fun m2 hm2 k hk => ?_, ?_, ?_⟩
    · by_cases h : k = m
      · subst h; rw [v1]; exact kok_nI (by omega)
      · rw [far _ (by omega) (by omega)]; exact (hK.1 k hk).1
    · rw [far _ (by omega) (by omega)]; exact (hK.1 k hk).2.1
    · by_cases h : k = m
      · subst h; rw [v2]; exact kok_nI (by omega)
      · rw [far _ (by omega) (by omega)]; exact (hK.1 k hk).2.2
    · rw [f0] at hm2
      rw [far _ (by omega) (by omega)]; exact hK.2.1 m2 hm2 k hk
    · have := hK.2.2.1
      unfold tot at this ⊢
      rw [f0, q11, q16, qb]
      omega
    · have := hK.2.2.2
      rw [q21]
      omega
  refine ⟨Inv_far (Inv_up hI (by omega)) (IS_eq (fun x _ _ => far x (by omega) (by omega)) (Inv_S hI)) (IM_eq f0 (fun m2 hm2 k hk => far _ (by omega) (by omega)) (Inv_M hI)) hK2 (fun x hx => far x (by omega) (by omega)), RS_eq (fun x _ _ => far x (by omega) (by omega)) hS, RM_eq f0 (fun m2 hm2 j hj => far _ (by omega) (by omega)) (fun m2 hm2 => far _ (by omega) (by omega)) hM, ?_, RN_eq (Inv_B hI) (far 2 (by omega) (by omega)) (fun x _ _ => far x (by omega) (by omega)) hN, ?_, RC_eq hcc (far 3 (by omega) (by omega)) (fun x _ _ => far x (by omega) (by omega)) hC, ?_, ?_, ?_, ?_⟩
  · obtain ⟨p1, p2, p3⟩ := hP
    have pv : ∀ x, x ≠ 30 + m → x ≠ 40 + m → upd (upd d.2.2.1 (6 * 5 + m) (d.2.2.1 (6 * 5 + m) + nI n)) (8 * 5 + m) (upd d.2.2.1 (6 * 5 + m) (d.2.2.1 (6 * 5 + m) + nI n) (8 * 5 + m) + nI n) x = d.2.2.1 x := fun x h1 h2 => by rw [un (by omega), un (by omega)]
    refine ⟨fun k hk => ⟨?_, ?_, ?_⟩, fun m2 hm2 k hk => ?_, fun x hx1 hx2 => ?_⟩
    · show upd (upd d.2.2.1 (6 * 5 + m) (d.2.2.1 (6 * 5 + m) + nI n)) (8 * 5 + m) (upd d.2.2.1 (6 * 5 + m) (d.2.2.1 (6 * 5 + m) + nI n) (8 * 5 + m) + nI n) (30 + k) = _
      by_cases h : k = m
      · subst h
        unfold oFeed
        rw [un (by omega), show 30 + k = 6 * 5 + k by omega, pk_us, un (by omega), pk_us, show 6 * 5 + k = 30 + k by omega, (p1 k hk).1]
      · rw [pv _ (by omega) (by omega), far _ (by omega) (by omega)]; exact (p1 k hk).1
    · show upd (upd d.2.2.1 (6 * 5 + m) (d.2.2.1 (6 * 5 + m) + nI n)) (8 * 5 + m) (upd d.2.2.1 (6 * 5 + m) (d.2.2.1 (6 * 5 + m) + nI n) (8 * 5 + m) + nI n) (35 + k) = _
      rw [pv _ (by omega) (by omega), far _ (by omega) (by omega)]; exact (p1 k hk).2.1
    · show upd (upd d.2.2.1 (6 * 5 + m) (d.2.2.1 (6 * 5 + m) + nI n)) (8 * 5 + m) (upd d.2.2.1 (6 * 5 + m) (d.2.2.1 (6 * 5 + m) + nI n) (8 * 5 + m) + nI n) (40 + k) = _
      by_cases h : k = m
      · subst h
        unfold oFeed
        rw [show 40 + k = 8 * 5 + k by omega, pk_us, pk_us, un (by omega), show 8 * 5 + k = 40 + k by omega, (p1 k hk).2.2]
      · rw [pv _ (by omega) (by omega), far _ (by omega) (by omega)]; exact (p1 k hk).2.2
    · rw [f0] at hm2
      show upd (upd d.2.2.1 (6 * 5 + m) (d.2.2.1 (6 * 5 + m) + nI n)) (8 * 5 + m) (upd d.2.2.1 (6 * 5 + m) (d.2.2.1 (6 * 5 + m) + nI n) (8 * 5 + m) + nI n) (m2 * 5 + k) = _
      rw [pv _ (by omega) (by omega), far _ (by omega) (by omega)]; exact p2 m2 hm2 k hk
    · rw [f0] at hx1
      show upd (upd d.2.2.1 (6 * 5 + m) (d.2.2.1 (6 * 5 + m) + nI n)) (8 * 5 + m) (upd d.2.2.1 (6 * 5 + m) (d.2.2.1 (6 * 5 + m) + nI n) (8 * 5 + m) + nI n) x = _
      rw [pv _ (by omega) (by omega)]; exact p3 x hx1 hx2
  · rw [far 2 (by omega) (by omega)]; exact e1
  · rw [far 3 (by omega) (by omega)]; exact e2
  · rw [far 0 (by omega) (by omega)]; exact e3
  · rw [far 1 (by omega) (by omega)]; exact e4
  · rw [far 4 (by omega) (by omega)]; exact e5
theorem tc_fill {m n : Nat} {f : XRow} {post : Int32 × XRow → Prop} (hm : m < 5) (h : post (upd (upd f (6 * 5 + m) (f (6 * 5 + m) + nI n)) (8 * 5 + m) (upd f (6 * 5 + m) (f (6 * 5 + m) + nI n) (8 * 5 + m) + nI n) (6 * 5 + m), upd (upd f (6 * 5 + m) (f (6 * 5 + m) + nI n)) (8 * 5 + m) (upd f (6 * 5 + m) (f (6 * 5 + m) + nI n) (8 * 5 + m) + nI n))) : wp_X4_fill f (nI m) (nI n) post :=
  tb_add (W := 5) (I := 6) (J := m) rfl rfl rfl (by omega) (by omega) (tb_add (W := 5) (I := 8) (J := m) rfl rfl rfl (by omega) (by omega) (tb_get (W := 5) (I := 6) (J := m) rfl rfl rfl (by omega) (by omega) h))
theorem a11 (k : Nat) : (11 : Int32) + nI k = nI (11 + k) := nI_add 11 k
theorem a16 (k : Nat) : (16 : Int32) + nI k = nI (16 + k) := nI_add 16 k
theorem a21 (k : Nat) : (21 : Int32) + nI k = nI (21 + k) := nI_add 21 k
theorem a6 (k : Nat) : (6 : Int32) + nI k = nI (6 + k) := nI_add 6 k
theorem tm_feeds {m n : Nat} {post : Int32 × XRow → Prop} (hm : m < 5) (h : post (g (11 + m) + nI n, oFeed g m (nI n))) : wp_X9_feeds g (nI m) (nI n) post := by
  unfold wp_X9_feeds
  rw [a11, a21, tn_nI (by omega), tn_nI (by omega)]
  refine ⟨v672 (by omega), v672 (by omega), v672 (by omega), v672 (by omega), v672 (by omega), ?_⟩
  have e : upd g (11 + m) (g (11 + m) + nI n) (21 + m) = g (21 + m) := un (by omega)
  rw [e]
  have e2 : upd (upd g (11 + m) (g (11 + m) + nI n)) (21 + m) (g (21 + m) + nI n) (11 + m) = g (11 + m) + nI n := by rw [un (by omega), pk_us]
  rw [e2]
  exact h
end OP
