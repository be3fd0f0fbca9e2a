/-! ===== level 2: looks ===== -/
section LO
variable {b : Nat} {d : PD} {g : XRow}
theorem nI_ne {a c : Nat} (ha : a < 2 ^ 31) (hc : c < 2 ^ 31) (h : a ≠ c) : ¬ nI a = nI c := fun e => h ((nI_eq ha hc).mp e)
theorem nI_m1 {a : Nat} (ha : a < 2 ^ 31) : ¬ nI a = -1 := fun e => by
  have h := congrArg Int32.toInt e
  rw [nI_toInt ha] at h
  have : (-1 : Int32).toInt = -1 := rfl
  omega
theorem wi_neg1 {x : Int32} (h : wi x (-1) 4 = true) : x = -1 ∨ ∃ k, k < 5 ∧ x = nI k := by
  obtain ⟨h1, h2⟩ := wi_t h
  by_cases h0 : x < 0
  · left
    rw [Int32.lt_iff_toInt_lt] at h1 h0
    have e1 : (-1 : Int32).toInt = -1 := rfl
    have e0 : (0 : Int32).toInt = 0 := rfl
    exact Int32.toInt_inj.mp (by omega)
  · right
    obtain ⟨j, hj, rfl⟩ := nI_of h0
    refine ⟨j, ?_, rfl⟩
    rcases Nat.lt_or_ge j 5 with h | h
    · exact h
    · exact absurd (nI_lt (a := 4) (b := j) (by omega) hj) h2
theorem wi_f {x : Int32} {n : Nat} (hn : n < 2 ^ 31) (h : wi x 0 (nI n) = false) : ∀ k, k ≤ n → ¬ x = nI k := fun k hk e => by
  subst e
  have := wi_nI (k := k) (lo := 0) (hi := n) (by omega) hk hn
  rw [show nI 0 = 0 from rfl, h] at this
  exact Bool.noConfusion this
/-! kilos -/
theorem wi_neg1f {x : Int32} (h : wi x (-1) 4 = false) : ¬ x = -1 ∧ wi x 0 4 = false := by
  refine ⟨fun e => by subst e; exact Bool.noConfusion (h.symm.trans (show wi (-1) (-1) 4 = true by decide)), ?_⟩
  cases hc : wi x 0 4 with
  | false => rfl
  | true =>
    obtain ⟨k, hk, rfl⟩ := wi_0 (n := 4) rfl (by omega) hc
    have h' : wi (nI k) (-1) 4 = true := by
      rcases (show k = 0 ∨ k = 1 ∨ k = 2 ∨ k = 3 ∨ k = 4 by omega) with rfl | rfl | rfl | rfl | rfl <;> decide
    exact Bool.noConfusion (h.symm.trans h')
theorem j_kilos {p0 p1 : Int32} (hR : Rel b d g) : J2 (wp_X8_kilos d p0 p1) (wp_X9_kilos g p0 p1) 0 sIA sIO := by
  have hM := IM_mc (Inv_M hR.1)
  obtain ⟨q1, q2, q3⟩ := Rel_P hR
  -- the class, at a row I that stands for the place a of the reference
  by_cases h10 : p0 = 10
  · subst h10
    have hw : wi 10 0 (g 0 - 1) = false := by
      cases hc : wi 10 0 (g 0 - 1) with
      | false => rfl
      | true =>
        obtain ⟨m, hm, h6, e⟩ := wi_M hR hc
        have := (nI_eq (a := 10) (b := m) (by omega) (by omega)).mp e
        omega
    cases hw1 : wi p1 (-1) 4 with
    | false =>
      obtain ⟨n1, n2⟩ := wi_neg1f hw1
      exact Or.inr (Or.inr ⟨fun post postX h => if_y rfl (if_n (by decide) (if_n n1 (tw_needMat (bb_f n2 h)))), fun post h => tm_isM (bb_f hw (tw_in (bb_t (by decide) (tw_in (bb_f hw1 h)))))⟩)
    | true =>
      rcases wi_neg1 hw1 with rfl | ⟨k, hk, rfl⟩
      · refine Or.inl ⟨i5 g 11, fun post postX h => if_y rfl (if_n (by decide) (if_y rfl (tb_sum (I := 6) rfl (by omega) (by omega) ?_))), fun post h => tm_isM (bb_f hw (tw_in (bb_t (by decide) (tw_in (bb_t hw1 (if_y rfl (if_n (by decide) (tq_sum (a := 11) rfl (by omega) h))))))))⟩
        rw [i5_fg (g := g) (a := 11) (fun k hk => (q1 k hk).1)]
        exact h
      · refine Or.inl ⟨g (11 + k), fun post postX h => if_y rfl (if_n (by decide) (if_n (nI_m1 (by omega)) (tw_needMat (bb_t (wi_nI (lo := 0) (hi := 4) (by omega) (by omega) (by omega)) (tb_get (W := 5) (I := 6) (J := k) rfl rfl rfl (by omega) (by omega) ?_))))), fun post h => tm_isM (bb_f hw (tw_in (bb_t (by decide) (tw_in (bb_t hw1 (if_y rfl (if_y (nI_pos' (by omega)) ?_)))))))⟩
        · rw [show 6 * 5 + k = 30 + k by omega, (q1 k hk).1]; exact h
        · rw [a11]; exact tm_g (P := fun x => post (x, 0)) (by omega) h
  · by_cases h11 : p0 = 11
    · subst h11
      have hw : wi 11 0 (g 0 - 1) = false := by
        cases hc : wi 11 0 (g 0 - 1) with
        | false => rfl
        | true =>
          obtain ⟨m, hm, h6, e⟩ := wi_M hR hc
          have := (nI_eq (a := 11) (b := m) (by omega) (by omega)).mp e
          omega
      cases hw1 : wi p1 (-1) 4 with
      | false =>
        obtain ⟨n1, n2⟩ := wi_neg1f hw1
        exact Or.inr (Or.inr ⟨fun post postX h => if_n (by decide) (if_y rfl (if_n (by decide) (if_n n1 (tw_needMat (bb_f n2 h))))), fun post h => tm_isM (bb_f hw (tw_in (bb_t (by decide) (tw_in (bb_f hw1 h)))))⟩)
      | true =>
        rcases wi_neg1 hw1 with rfl | ⟨k, hk, rfl⟩
        · refine Or.inl ⟨i5 g 16, fun post postX h => if_n (by decide) (if_y rfl (if_n (by decide) (if_y rfl (tb_sum (I := 7) rfl (by omega) (by omega) ?_)))), fun post h => tm_isM (bb_f hw (tw_in (bb_t (by decide) (tw_in (bb_t hw1 (if_n (by decide) (if_y rfl (if_n (by decide) (tq_sum (a := 16) rfl (by omega) h)))))))))⟩
          rw [i5_fg (g := g) (a := 16) (fun k hk => (q1 k hk).2.1)]
          exact h
        · refine Or.inl ⟨g (16 + k), fun post postX h => if_n (by decide) (if_y rfl (if_n (by decide) (if_n (nI_m1 (by omega)) (tw_needMat (bb_t (wi_nI (lo := 0) (hi := 4) (by omega) (by omega) (by omega)) (tb_get (W := 5) (I := 7) (J := k) rfl rfl rfl (by omega) (by omega) ?_)))))), fun post h => tm_isM (bb_f hw (tw_in (bb_t (by decide) (tw_in (bb_t hw1 (if_n (by decide) (if_y rfl (if_y (nI_pos' (by omega)) ?_))))))))⟩
          · rw [show 7 * 5 + k = 35 + k by omega, (q1 k hk).2.1]; exact h
          · rw [a16]; exact tm_g (P := fun x => post (x, 0)) (by omega) h
    · have row : ∀ post, (wi p0 0 (g 0 - 1) = true → post p0) ∧ (wi p0 0 (g 0 - 1) = false → post (-1)) → wp_X8_rowOf d p0 post := fun post h => by
        refine if_n h10 (if_n h11 ?_)
        rw [Rel_mc hR]
        exact tw_wi h
      cases hw : wi p0 0 (g 0 - 1) with
      | false =>
        have h2 : wi p0 10 11 = false := by
          cases hc : wi p0 10 11 with
          | false => rfl
          | true =>
            obtain ⟨k, k1, k2, rfl⟩ := wi_ok (a := 10) (b := 11) rfl rfl (by omega) (by omega) hc
            rcases (show k = 10 ∨ k = 11 by omega) with rfl | rfl
            · exact absurd rfl h10
            · exact absurd rfl h11
        exact Or.inr (Or.inl ⟨fun post postX h => row _ (bb_f hw (if_y rfl h)), fun post h => tm_isM (bb_f hw (tw_in (bb_f h2 h)))⟩)
      | true =>
        obtain ⟨m, hm, h6, rfl⟩ := wi_M hR hw
        have hn := nI_m1 (a := m) (by omega)
        cases hw1 : wi p1 (-1) 4 with
        | false =>
          obtain ⟨n1, n2⟩ := wi_neg1f hw1
          exact Or.inr (Or.inr ⟨fun post postX h => row _ (bb_t hw (if_n hn (if_n n1 (tw_needMat (bb_f n2 h))))), fun post h => tm_isM (bb_t hw (tw_in (bb_f hw1 h)))⟩)
        | true =>
          rcases wi_neg1 hw1 with rfl | ⟨k, hk, rfl⟩
          · refine Or.inl ⟨i5 g (31 + 11 * m), fun post postX h => row _ (bb_t hw (if_n hn (if_y rfl (tb_sum (I := m) rfl (by omega) (by omega) ?_)))), fun post h => tm_isM (bb_t hw (tw_in (bb_t hw1 (if_n h10 (if_n h11 (tm_mAt (m := m) (w := 5) rfl rfl (if_n (by decide) (tq_sum (a := 31 + 11 * m) (by congr 1; omega) (by omega) h))))))))⟩
            rw [i5_fg (g := g) (a := 31 + 11 * m) (q2 m hm)]
            exact h
          · refine Or.inl ⟨g (31 + 11 * m + k), fun post postX h => row _ (bb_t hw (if_n hn (if_n (nI_m1 (by omega)) (tw_needMat (bb_t (wi_nI (lo := 0) (hi := 4) (by omega) (by omega) (by omega)) (tb_get (W := 5) (I := m) (J := k) rfl rfl rfl (by omega) (by omega) ?_)))))), fun post h => tm_isM (bb_t hw (tw_in (bb_t hw1 (if_n h10 (if_n h11 (tm_mAt (m := m) (w := 5) rfl rfl (if_y (nI_pos' (by omega)) ?_)))))))⟩
            · rw [q2 m hm k hk]; exact h
            · rw [nI_add, show 26 + 11 * m + 5 + k = 31 + 11 * m + k by omega]; exact tm_g (P := fun x => post (x, 0)) (by omega) h
/-! contracts -/
theorem j_contractOf {p0 p1 : Int32} (hR : Rel b d g) : J2 (wp_X8_contractOf d p0 p1) (wp_X9_contractOf g p0 p1) 0 sIO sIA := by
  have c0 : ∀ {post : Int32 → Prop} {postX : String → Unit → Prop}, (wi p0 0 (g 3 - 1) = true → wp_X8_isWithin p1 0 4 (fun u2 : Bool => (u2 = true → (wp_X6_get 5 40 d.2.2.2.2.2.2.1 p0 p1 (fun u3 : Int32 => post u3))) ∧ (u2 = false → (postX sIA ())))) ∧ (wi p0 0 (g 3 - 1) = false → postX sIO ()) → wp_X8_contractOf d p0 p1 post postX := fun {post postX} h => by
    unfold wp_X8_contractOf
    rw [Rel_cc hR]
    exact tw_wi h
  cases hw : wi p0 0 (g 3 - 1) with
  | false => exact Or.inr (Or.inl ⟨fun post postX h => c0 (bb_f hw h), fun post h => ⟨v672 (n := 3) (by omega), tw_in (bb_f hw h)⟩⟩)
  | true =>
    obtain ⟨m, hm, h8, rfl⟩ := wi_C hR hw
    cases hw2 : wi p1 0 4 with
    | false => exact Or.inr (Or.inr ⟨fun post postX h => c0 (bb_t hw (tw_wi (bb_f hw2 h))), fun post h => ⟨v672 (n := 3) (by omega), tw_in (bb_t hw (tw_in (bb_f hw2 h)))⟩⟩)
    | true =>
      obtain ⟨j, hj, rfl⟩ := wi_0 (n := 4) rfl (by omega) hw2
      refine Or.inl ⟨g (92 + 5 * m + j), fun post postX h => c0 (bb_t hw (tw_wi (bb_t hw2 (tb_get (W := 5) (I := m) (J := j) rfl rfl rfl (by omega) (by omega) ?_)))), fun post h => ⟨v672 (n := 3) (by omega), tw_in (bb_t hw (tw_in (bb_t hw2 (tm_gC (m := m) (w := j) (P := fun x => post (x, 0)) rfl rfl (by omega) h))))⟩⟩
      rw [Rel_C hR m hm j (by omega)]
      exact h
/-! one bale -/
theorem tm_grade {i : Nat} {post : Int32 → Prop} {p0 : Int32} (h0 : p0 = nI i) (hB : IB1 g i) (hi : i < 60) (h : post (nI (gBy (cn (g (138 + 9 * i)))))) : wp_X9_grade g p0 post := by
  obtain ⟨e, l, u⟩ := ok_cn hB.2.2.2.2.1 (by omega)
  refine tm_gB (m := i) (w := 6) (P := fun x => wp_X9_gradeBy x (fun u2 : Int32 => post u2)) h0 rfl (by omega) ?_
  rw [show 132 + 9 * i + 6 = 138 + 9 * i by omega]
  unfold gBy at h
  refine pk_lt (cn (g (138 + 9 * i))) 950 (fun h9 => pk_lt (cn (g (138 + 9 * i))) 850 (fun h8 => pk_lt (cn (g (138 + 9 * i))) 700 (fun h7 => ?_) (fun h7 => ?_) e) (fun h8 => ?_) e) (fun h9 => ?_) e
  · rw [if_neg (by omega), if_neg (by omega), if_neg (by omega)] at h; exact h
  · rw [if_neg (by omega), if_neg (by omega), if_pos (by omega)] at h; exact h
  · rw [if_neg (by omega), if_pos (by omega)] at h; exact h
  · rw [if_pos (by omega)] at h; exact h
theorem tm_kilos {i : Nat} {post : Int32 → Prop} {p0 : Int32} (h0 : p0 = nI i) (hB : IB1 g i) (hi : i < 60) (h : post (nI (s5 (kq g (132 + 9 * i))))) : wp_X9_kilosOf g p0 post := by
  refine tm_bAt (m := i) (w := 0) h0 rfl (tq_sum (a := 132 + 9 * i) rfl (by omega) ?_)
  rw [i5_g hB.1]
  exact h
theorem tm_pure {i : Nat} {post : Int32 → Prop} {p0 : Int32} (h0 : p0 = nI i) (hB : IB1 g i) (hi : i < 60) (h : post (g (132 + 9 * i + cn (g (137 + 9 * i))))) : wp_X9_pure g p0 post := by
  obtain ⟨e, l, u⟩ := ok_cn hB.2.2.2.1 (by omega)
  refine tm_bAt (m := i) (w := 5) h0 rfl ⟨v672 (by omega), ?_⟩
  rw [tn_nI (by omega), show 132 + 9 * i + 5 = 137 + 9 * i by omega]
  exact tm_gB (m := i) (w := cn (g (137 + 9 * i))) h0 e (by omega) h
theorem pur_le {i : Nat} (hB : IB1 g i) : cn (g (132 + 9 * i + cn (g (137 + 9 * i)))) ≤ s5 (kq g (132 + 9 * i)) := s5_ge (kq g (132 + 9 * i)) _ (IB1_mat hB)
theorem j_bale {p0 p1 : Int32} (hR : Rel b d g) : J2 (wp_X8_bale d p0 p1) (wp_X9_bale g p0 p1) 0 sIO sIA := by
  cases hw : wi p0 0 (g 2 - 1) with
  | false => exact Or.inr (Or.inl ⟨fun post postX h => tc_needB hR (bb_f hw h), fun post h => tm_isB (bb_f hw h)⟩)
  | true =>
    obtain ⟨i, hi, h6, rfl⟩ := wi_B hR hw
    cases hw2 : wi p1 0 11 with
    | false => exact Or.inr (Or.inr ⟨fun post postX h => tc_needB hR (bb_t hw (tw_wi (bb_f hw2 h))), fun post h => tm_isB (bb_t hw (tw_in (bb_f hw2 h)))⟩)
    | true =>
      obtain ⟨j, hj, rfl⟩ := wi_0 (n := 11) rfl (by omega) hw2
      have hB := (Inv_B hR.1).2 i hi
      obtain ⟨n1, n2, n3, n4, n5, n6, n7, n8⟩ := Rel_N hR i hi
      have ne : ∀ c : Nat, j ≠ c → c < 100 → ¬ nI j = nI c := fun c h hc => nI_ne (by omega) (by omega) h
      have cls : ∀ {v : Int32}, d.2.2.2.1 (i * 12 + j) = v → ∀ post postX, post v → wp_X8_bale d (nI i) (nI j) post postX := fun {v} e post postX h => tc_needB hR (bb_t hw (tw_wi (bb_t hw2 (tb_get (W := 12) (I := i) (J := j) rfl rfl rfl (by omega) (by omega) (by rw [e]; exact h)))))
      have sw : ∀ {A B6 B7 B8 B9 B10 B11 : Prop}, (j < 6 → A) → (j = 6 → B6) → (j = 7 → B7) → (j = 8 → B8) → (j = 9 → B9) → (j = 10 → B10) → (j = 11 → B11) → ((((nI j).toInt < 6 ∨ 6 + (6 : Nat) ≤ (nI j).toInt) → A) ∧ (nI j = 6 → B6) ∧ (nI j = 7 → B7) ∧ (nI j = 8 → B8) ∧ (nI j = 9 → B9) ∧ (nI j = 10 → B10) ∧ (nI j = 11 → B11)) := fun hA h6 h7 h8 h9 h10 h11 => by
        refine ⟨fun h => hA ?_, fun h => h6 ?_, fun h => h7 ?_, fun h => h8 ?_, fun h => h9 ?_, fun h => h10 ?_, fun h => h11 ?_⟩
        · rw [nI_toInt (by omega)] at h; omega
        · exact (nI_eq (a := j) (b := 6) (by omega) (by omega)).mp h
        · exact (nI_eq (a := j) (b := 7) (by omega) (by omega)).mp h
        · exact (nI_eq (a := j) (b := 8) (by omega) (by omega)).mp h
        · exact (nI_eq (a := j) (b := 9) (by omega) (by omega)).mp h
        · exact (nI_eq (a := j) (b := 10) (by omega) (by omega)).mp h
        · exact (nI_eq (a := j) (b := 11) (by omega) (by omega)).mp h
      by_cases h5 : j < 6
      · refine Or.inl ⟨g (132 + 9 * i + j), cls ?_, fun post h => tm_isB (bb_t hw (tw_in (bb_t hw2 (sw (fun _ => tm_gB (m := i) (w := j) (P := fun x => post (x, 0)) rfl rfl (by omega) h) (by omega) (by omega) (by omega) (by omega) (by omega) (by omega)))))⟩
        by_cases hj5 : j = 5
        · subst hj5; rw [n2, show 132 + 9 * i + 5 = 137 + 9 * i by omega]
        · exact n1 j (by omega)
      · by_cases h6j : j = 6
        · subst h6j
          exact Or.inl ⟨_, cls n3, fun post h => tm_isB (bb_t hw (tw_in (bb_t hw2 (sw (by omega) (fun _ => tm_kilos rfl hB (by omega) h) (by omega) (by omega) (by omega) (by omega) (by omega)))))⟩
        · by_cases h7j : j = 7
          · subst h7j
            refine Or.inl ⟨_, cls n4, fun post h => tm_isB (bb_t hw (tw_in (bb_t hw2 (sw (by omega) (by omega) (fun _ => tm_pure rfl hB (by omega) (tm_kilos rfl hB (by omega) ⟨nI_ne0 (by have := hB.2.1; omega) (by have := hB.2.2.1; omega), ?_⟩)) (by omega) (by omega) (by omega) (by omega)))))⟩
            have hp := pur_le hB
            have hk := hB.2.2.1
            rw [show g (132 + 9 * i + cn (g (137 + 9 * i))) = nI (cn (g (132 + 9 * i + cn (g (137 + 9 * i))))) from hB.1 _ (IB1_mat hB), show (1000 : Int32) = nI 1000 from rfl, pk_mul, pk_div (by omega) (by have := hB.2.1; omega) (by omega)]
            exact h
          · by_cases h8j : j = 8
            · subst h8j
              refine Or.inl ⟨_, cls n5, fun post h => tm_isB (bb_t hw (tw_in (bb_t hw2 (sw (by omega) (by omega) (by omega) (fun _ => tm_gB (m := i) (w := 6) (P := fun x => post (x, 0)) rfl rfl (by omega) ?_) (by omega) (by omega) (by omega)))))⟩
              rw [show 132 + 9 * i + 6 = 138 + 9 * i by omega]; exact h
            · by_cases h9j : j = 9
              · subst h9j
                exact Or.inl ⟨_, cls n6, fun post h => tm_isB (bb_t hw (tw_in (bb_t hw2 (sw (by omega) (by omega) (by omega) (by omega) (fun _ => tm_grade rfl hB (by omega) h) (by omega) (by omega)))))⟩
              · by_cases h10j : j = 10
                · subst h10j
                  refine Or.inl ⟨_, cls n7, fun post h => tm_isB (bb_t hw (tw_in (bb_t hw2 (sw (by omega) (by omega) (by omega) (by omega) (by omega) (fun _ => tm_gB (m := i) (w := 7) (P := fun x => post (x, 0)) rfl rfl (by omega) ?_) (by omega)))))⟩
                  rw [show 132 + 9 * i + 7 = 139 + 9 * i by omega]; exact h
                · obtain rfl : j = 11 := by omega
                  refine Or.inl ⟨_, cls n8, fun post h => tm_isB (bb_t hw (tw_in (bb_t hw2 (sw (by omega) (by omega) (by omega) (by omega) (by omega) (by omega) (fun _ => tm_gB (m := i) (w := 8) (P := fun x => post (x, 0)) rfl rfl (by omega) ?_)))))⟩
                  rw [show 132 + 9 * i + 8 = 140 + 9 * i by omega]; exact h
/-! sums over the bales -/
def bfold (f : Nat → Nat) : Nat → Nat | 0 => 0 | i + 1 => bfold f i + f i
theorem bfold_le {f : Nat → Nat} {M : Nat} (h : ∀ i, f i ≤ M) : ∀ n, bfold f n ≤ n * M
  | 0 => Nat.zero_le _
  | n + 1 => by
    have := bfold_le h n
    have := h n
    show bfold f n + f n ≤ _
    rw [Nat.succ_mul]; omega
theorem bfold_le2 {f : Nat → Nat} {M N : Nat} (h : ∀ i, i < N → f i ≤ M) : ∀ n, n ≤ N → bfold f n ≤ n * M
  | 0, _ => Nat.zero_le _
  | n + 1, hn => by
    have := bfold_le2 h n (by omega)
    have := h n (by omega)
    show bfold f n + f n ≤ _
    rw [Nat.succ_mul]; omega
def stk1 (g : XRow) (m q i : Nat) : Nat := if g (139 + 9 * i) = 0 then if g (137 + 9 * i) = nI m then if gBy (cn (g (138 + 9 * i))) ≤ q then s5 (kq g (132 + 9 * i)) else 0 else 0 else 0
theorem j_stock {p0 p1 : Int32} (hR : Rel b d g) : J2 (wp_X8_stock d p0 p1) (wp_X9_stock g p0 p1) 0 sIO sIA := by
  obtain ⟨e2, h60⟩ := IB_nb (Inv_B hR.1)
  have z0 : ∀ (kk : Int32 → Int32 → Prop), kk 0 0 → wp_X9_stock_L34 g kk 1 0 0 := fun kk h => ⟨v672 (n := 2) (by omega), fun _ => h, fun _ => h⟩
  have z1 : ∀ (kk : Int32 → Int32 → Prop), kk 0 0 → wp_X9_stock_L34_1 g kk 1 0 0 := fun kk h => ⟨v672 (n := 2) (by omega), fun _ => h, fun _ => h⟩
  cases hw : wi p0 0 4 with
  | false => exact Or.inr (Or.inl ⟨fun post postX h => tw_needMat (bb_f hw h), fun post h => tw_mat9 (bb_f hw ⟨1, z0 _ h⟩)⟩)
  | true =>
    obtain ⟨m, hm, rfl⟩ := wi_0 (n := 4) rfl (by omega) hw
    cases hw2 : wi p1 0 3 with
    | false => exact Or.inr (Or.inr ⟨fun post postX h => tw_needMat (bb_t hw (tw_wi (bb_f hw2 h))), fun post h => tw_mat9 (bb_t hw (tw_in (bb_f hw2 ⟨1, z1 _ h⟩)))⟩)
    | true =>
      obtain ⟨q, hq, rfl⟩ := wi_0 (n := 3) rfl (by omega) hw2
      have gb4 : ∀ x, gBy x ≤ 3 := fun x => by unfold gBy; (repeat' split) <;> omega
      refine Or.inl ⟨nI (bfold (stk1 g m q) (cn (g 2))), fun post postX h => tw_needMat (bb_t hw (tw_wi (bb_t hw2 ?_))), fun post h => tw_mat9 (bb_t hw (tw_in (bb_t hw2 ?_)))⟩
      · unfold wp_X0_stockOf
        rw [Rel_bc hR]
        refine loop_0 (fun n i s => wp_X0_stockOf_L5 d.2.2.2.1 (g 2) (nI m) (nI q) (fun (_ : Int32) (v16 : Int32) => post v16) n (nI i) s) (fun i s => s = nI (bfold (stk1 g m q) i)) (cn (g 2)) 0 rfl ?_ ?_
        · intro n s hs
          subst hs
          exact if_y (by conv => lhs; rw [e2]
                         exact nI_le (Nat.le_refl _) (by omega)) h
        · intro n i s hi hs hk
          subst hs
          have e1 : nI i + 1 = nI (i + 1) := nI_1 i
          obtain ⟨n1, n2, n3, n4, n5, n6, n7, n8⟩ := Rel_N hR i hi
          have nx : ∀ x y : Int32, x = nI (bfold (stk1 g m q) i) + nI (stk1 g m q i) → y = nI i + 1 → wp_X0_stockOf_L5 d.2.2.2.1 (g 2) (nI m) (nI q) (fun (_ : Int32) (v16 : Int32) => post v16) n y x := fun x y hx hy => by
            rw [hx, hy, e1, nI_add]; exact hk _ rfl
          refine if_n (by conv => arg 1; lhs; rw [e2]
                          exact nI_ge hi (by omega)) (tb_get (W := 12) (I := i) (J := 10) rfl rfl rfl (by omega) (by omega) ?_)
          rw [n7]
          refine ⟨fun h0 => bb_t rfl ?_, fun h0 => bb_f rfl ?_⟩
          · refine tb_get (W := 12) (I := i) (J := 5) rfl rfl rfl (by omega) (by omega) ?_
            rw [n2]
            refine ⟨fun h1 => tb_get (W := 12) (I := i) (J := 9) rfl rfl rfl (by omega) (by omega) ?_, fun h1 x hx y hy => nx x y ?_ hy⟩
            · rw [n6]
              have := gb4 (cn (g (138 + 9 * i)))
              refine pk_lt q (gBy (cn (g (138 + 9 * i)))) (fun h2 x hx y hy => nx x y ?_ hy) (fun h2 => tb_get (W := 12) (I := i) (J := 6) rfl rfl rfl (by omega) (by omega) ?_)
              · rw [hx]; unfold stk1; rw [if_pos h0, if_pos h1, if_neg (by omega)]; rfl
              · rw [n3]
                intro x hx y hy
                refine nx x y ?_ hy
                rw [hx]; unfold stk1; rw [if_pos h0, if_pos h1, if_pos h2]
            · rw [hx]; unfold stk1; rw [if_pos h0, if_neg h1]; rfl
          · intro x hx y hy
            refine nx x y ?_ hy
            rw [hx]; unfold stk1; rw [if_neg h0]; rfl
      · refine loop_0 (fun n i s => wp_X9_stock_L34_2 g (nI m) (nI q) (fun (_ : Int32) (v26 : Int32) => post (v26, 0)) n (nI i) s) (fun i s => s = nI (bfold (stk1 g m q) i)) (cn (g 2)) 0 rfl ?_ ?_
        · intro n s hs
          subst hs
          exact ⟨v672 (n := 2) (by omega), if_y (by show g 2 ≤ _
                                                    conv => lhs; rw [e2]
                                                    exact nI_le (Nat.le_refl _) (by omega)) h⟩
        · intro n i s hi hs hk
          subst hs
          have e1 : nI i + 1 = nI (i + 1) := nI_1 i
          have hB := (Inv_B hR.1).2 i hi
          have nx : ∀ x y : Int32, x = nI (bfold (stk1 g m q) i) + nI (stk1 g m q i) → y = nI i + 1 → wp_X9_stock_L34_2 g (nI m) (nI q) (fun (_ : Int32) (v26 : Int32) => post (v26, 0)) n y x := fun x y hx hy => by
            rw [hx, hy, e1, nI_add]; exact hk _ rfl
          refine ⟨v672 (n := 2) (by omega), if_n (by show ¬ g 2 ≤ _
                                                     conv => arg 1; lhs; rw [e2]
                                                     exact nI_ge hi (by omega)) (tm_bAt (m := i) (w := 7) rfl rfl ⟨v672 (by omega), ?_⟩)⟩
          rw [tn_nI (by omega), show 132 + 9 * i + 7 = 139 + 9 * i by omega]
          refine ⟨fun h0 => tm_bAt (m := i) (w := 5) rfl rfl ⟨v672 (by omega), ?_⟩, fun h0 x hx y hy => nx x y ?_ hy⟩
          · rw [tn_nI (by omega), show 132 + 9 * i + 5 = 137 + 9 * i by omega]
            refine ⟨fun h1 => tm_grade rfl hB (by omega) ?_, fun h1 x hx y hy => nx x y ?_ hy⟩
            · have := gb4 (cn (g (138 + 9 * i)))
              refine pk_lt q (gBy (cn (g (138 + 9 * i)))) (fun h2 x hx y hy => nx x y ?_ hy) (fun h2 => tm_kilos rfl hB (by omega) (fun x hx y hy => nx x y ?_ hy))
              · rw [hx]; unfold stk1; rw [if_pos h0, if_pos h1, if_neg (by omega)]; rfl
              · rw [hx]; unfold stk1; rw [if_pos h0, if_pos h1, if_pos h2]
            · rw [hx]; unfold stk1; rw [if_pos h0, if_neg h1]; rfl
          · rw [hx]; unfold stk1; rw [if_neg h0]; rfl
end LO
