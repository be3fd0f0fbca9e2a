/-! ===== level 2: whole calls that change ===== -/
def JR {α β : Type} (A : (α → Prop) → (String → Unit → Prop) → Prop) (B : (β → Prop) → Prop) (e : String) (z : β) : Prop := (∀ post postX, postX e () → A post postX) ∧ ∀ post, post z → B post
theorem rf0 {post : Unit → Prop} {postX : String → Unit → Prop} (h : post ()) : wp_X8_refuse 0 post postX := if_n (by decide) (if_n (by decide) (if_n (by decide) h))
theorem rf1 {post : Unit → Prop} {postX : String → Unit → Prop} (h : postX sIO ()) : wp_X8_refuse 1 post postX := if_y rfl h
theorem rf2 {post : Unit → Prop} {postX : String → Unit → Prop} (h : postX sIA ()) : wp_X8_refuse 2 post postX := if_n (by decide) (if_y rfl h)
theorem rf3 {post : Unit → Prop} {postX : String → Unit → Prop} (h : postX sIS ()) : wp_X8_refuse 3 post postX := if_n (by decide) (if_n (by decide) (if_y rfl h))
theorem xAbs_6 : ∀ m, m < 6 → ∀ k, k < 6 → m ≠ k → xAbs (nI m - nI k) - 1 = nI (max m k - min m k - 1) := by decide +kernel
theorem mb_le (j : Nat) : mlo j ≤ 10 ∧ mhi j ≤ 500 := by
  unfold mlo mhi
  refine ⟨?_, ?_⟩ <;> split <;> omega
theorem sb_le (j : Nat) : slo j ≤ 10 ∧ shi j ≤ 500 := by
  unfold slo shi
  refine ⟨?_, ?_⟩ <;> split <;> omega
section CH
variable {b : Nat} {d : PD} {g past : XRow} {hn hc pasts : Int32} {hK : Nat → PD}
theorem u_add {p0 p1 p2 p3 p4 : Int32} (hR : Rel b d g) (hH : HR b hn hc hK past pasts) : (∃ (v N : Int32) (F g2 : XRow), Rel b (d.1, F, d.2.2.1, d.2.2.2.1, d.2.2.2.2.1, d.2.2.2.2.2.1, d.2.2.2.2.2.2.1, d.2.2.2.2.2.2.2.1, d.2.2.2.2.2.2.2.2.1, N, d.2.2.2.2.2.2.2.2.2.2.1, d.2.2.2.2.2.2.2.2.2.2.2) g2 ∧ (∀ post (postX : String → Unit → Prop), post (v, hKK hn hK d, N, F, hnK hn, hcK hc) → wp_X8_addMachine d hn hc hK p0 p1 p2 p3 p4 post postX) ∧ ∀ post, post (v, mnK pasts, 0, g2, mpK past pasts g) → wp_X9_addMachine g past pasts p0 p1 p2 p3 p4 post) ∨ JR (wp_X8_addMachine d hn hc hK p0 p1 p2 p3 p4) (wp_X9_addMachine g past pasts p0 p1 p2 p3 p4) sIO (0, pasts, 1, g, past) ∨ JR (wp_X8_addMachine d hn hc hK p0 p1 p2 p3 p4) (wp_X9_addMachine g past pasts p0 p1 p2 p3 p4) sIA (0, pasts, 2, g, past) ∨ JR (wp_X8_addMachine d hn hc hK p0 p1 p2 p3 p4) (wp_X9_addMachine g past pasts p0 p1 p2 p3 p4) sIS (0, pasts, 3, g, past) := by
  obtain ⟨e0, h6⟩ := IM_mc (Inv_M hR.1)
  cases w0 : wi p0 0 4 with
  | false => exact Or.inr (Or.inl ⟨fun post postX h => tw_needMat (bb_f w0 h), fun post h => tw_mat9 (bb_f w0 h)⟩)
  | true =>
    cases w1 : wi p1 10 100 with
    | false => exact Or.inr (Or.inr (Or.inl ⟨fun post postX h => tw_needMat (bb_t w0 (tc_fit01 (w := 1) (by omega) (bb_f w1 h))), fun post h => tw_mat9 (bb_t w0 (tm_mayBe (w := 1) (by omega) (bb_f w1 h)))⟩))
    | true =>
      cases w2 : wi p2 0 90 with
      | false => exact Or.inr (Or.inr (Or.inl ⟨fun post postX h => tw_needMat (bb_t w0 (tc_fit01 (w := 1) (by omega) (bb_t w1 (tc_fit01 (w := 2) (by omega) (bb_f w2 h))))), fun post h => tw_mat9 (bb_t w0 (tm_mayBe (w := 1) (by omega) (bb_t w1 (tm_mayBe (w := 2) (by omega) (bb_f w2 h)))))⟩))
      | true =>
        cases w3 : wi p3 1 500 with
        | false => exact Or.inr (Or.inr (Or.inl ⟨fun post postX h => tw_needMat (bb_t w0 (tc_fit01 (w := 1) (by omega) (bb_t w1 (tc_fit01 (w := 2) (by omega) (bb_t w2 (tc_fit01 (w := 3) (by omega) (bb_f w3 h))))))), fun post h => tw_mat9 (bb_t w0 (tm_mayBe (w := 1) (by omega) (bb_t w1 (tm_mayBe (w := 2) (by omega) (bb_t w2 (tm_mayBe (w := 3) (by omega) (bb_f w3 h)))))))⟩))
        | true =>
          cases w4 : wi p4 0 9 with
          | false => exact Or.inr (Or.inr (Or.inl ⟨fun post postX h => tw_needMat (bb_t w0 (tc_fit01 (w := 1) (by omega) (bb_t w1 (tc_fit01 (w := 2) (by omega) (bb_t w2 (tc_fit01 (w := 3) (by omega) (bb_t w3 (tc_fit01 (w := 4) (by omega) (bb_f w4 h))))))))), fun post h => tw_mat9 (bb_t w0 (tm_mayBe (w := 1) (by omega) (bb_t w1 (tm_mayBe (w := 2) (by omega) (bb_t w2 (tm_mayBe (w := 3) (by omega) (bb_t w3 (tm_mayBe (w := 4) (by omega) (bb_f w4 h)))))))))⟩))
          | true =>
            by_cases hc6 : cn (g 0) < 6
            · refine Or.inl ⟨nI (cn (g 0)), nI (cn (g 0) + 1), _, _, Rel_add (v := v5 p0 p1 p2 p3 p4) hR hc6 (wi_ok (a := 0) (b := 4) rfl rfl (by omega) (by omega) w0) (wi_ok (a := 10) (b := 100) rfl rfl (by omega) (by omega) w1) (wi_ok (a := 0) (b := 90) rfl rfl (by omega) (by omega) w2) (wi_ok (a := 1) (b := 500) rfl rfl (by omega) (by omega) w3) (wi_ok (a := 0) (b := 9) rfl rfl (by omega) (by omega) w4), fun post postX h => tw_needMat (bb_t w0 (tc_fit01 (w := 1) (by omega) (bb_t w1 (tc_fit01 (w := 2) (by omega) (bb_t w2 (tc_fit01 (w := 3) (by omega) (bb_t w3 (tc_fit01 (w := 4) (by omega) (bb_t w4 (if_y (by rw [Rel_mc hR, e0]; exact nI_lt (b := 6) hc6 (by omega)) (tc_keep hH ?_))))))))))), fun post h => tm_add hR hH w0 w1 w2 w3 w4 hc6 ?_⟩
              · show wp_X4_addLast d.2.1 d.2.2.2.2.2.2.2.2.2.1 p0 p1 p2 p3 p4 _
                rw [Rel_mc hR, e0]
                exact tc_addL hc6 h
              · rw [e0]
                exact h
            · have e6 : cn (g 0) = 6 := by omega
              refine Or.inr (Or.inr (Or.inr ⟨fun post postX h => tw_needMat (bb_t w0 (tc_fit01 (w := 1) (by omega) (bb_t w1 (tc_fit01 (w := 2) (by omega) (bb_t w2 (tc_fit01 (w := 3) (by omega) (bb_t w3 (tc_fit01 (w := 4) (by omega) (bb_t w4 (if_n (by rw [Rel_mc hR, e0]; exact nI_nlt (a := cn (g 0)) (b := 6) (by omega) (by omega)) h)))))))))), fun post h => tw_mat9 (bb_t w0 (tm_mayBe (w := 1) (by omega) (bb_t w1 (tm_mayBe (w := 2) (by omega) (bb_t w2 (tm_mayBe (w := 3) (by omega) (bb_t w3 (tm_mayBe (w := 4) (by omega) (bb_t w4 (⟨v672 (n := 0) (by omega), if_y ?_ h⟩))))))))))⟩))
              show g 0 = 6
              rw [e0, e6]
              rfl
theorem u_rem (hb : b ≤ 600) (hR : Rel b d g) (hH : HR b hn hc hK past pasts) : (∃ (v N : Int32) (F g2 : XRow), Rel b (d.1, d.2.1, F, d.2.2.2.1, d.2.2.2.2.1, d.2.2.2.2.2.1, d.2.2.2.2.2.2.1, d.2.2.2.2.2.2.2.1, d.2.2.2.2.2.2.2.2.1, N, d.2.2.2.2.2.2.2.2.2.2.1, d.2.2.2.2.2.2.2.2.2.2.2) g2 ∧ (∀ post (postX : String → Unit → Prop), post (v, hKK hn hK d, N, F, hnK hn, hcK hc) → wp_X8_removeMachine d hn hc hK post postX) ∧ ∀ post, post (v, mnK pasts, 0, g2, mpK past pasts g) → wp_X9_removeMachine g past pasts post) ∨ JR (wp_X8_removeMachine d hn hc hK) (wp_X9_removeMachine g past pasts) sNS (0, pasts, 1, g, past) := by
  obtain ⟨e0, h6⟩ := IM_mc (Inv_M hR.1)
  by_cases h0 : 0 < cn (g 0)
  · have e1 : cn (g 0) = cn (g 0) - 1 + 1 := by omega
    refine Or.inl ⟨i5 g (31 + 11 * (cn (g 0) - 1)), nI (cn (g 0) - 1), _, _, Rel_rem hb hR h0, fun post postX h => if_y (by rw [Rel_mc hR, e0]; exact nI_lt (a := 0) h0 (by omega)) (tc_keep hH ?_), fun post h => tm_rem hR hH h0 h⟩
    show wp_X4_removeLast d.2.2.1 d.2.2.2.2.2.2.2.2.2.1 _
    have e2 : d.2.2.2.2.2.2.2.2.2.1 = nI (cn (g 0) - 1 + 1) := (Rel_mc hR).trans (e0.trans (congrArg nI e1))
    rw [e2]
    refine tc_rem (by omega) ?_
    rw [i5_fg (g := g) (a := 31 + 11 * (cn (g 0) - 1)) (RP_bun (Rel_P hR) (by omega))]
    exact h
  · have e2 : cn (g 0) = 0 := by omega
    refine Or.inr ⟨fun post postX h => if_n (by rw [Rel_mc hR, e0, e2]; decide) h, fun post h => ⟨v672 (n := 0) (by omega), if_y ?_ h⟩⟩
    show g 0 = 0
    rw [e0, e2]
    rfl
theorem u_exch {p0 p1 : Int32} (hR : Rel b d g) (hH : HR b hn hc hK past pasts) : (∃ (v : Int32) (M P g2 : XRow), Rel b (d.1, M, P, d.2.2.2.1, d.2.2.2.2.1, d.2.2.2.2.2.1, d.2.2.2.2.2.2.1, d.2.2.2.2.2.2.2.1, d.2.2.2.2.2.2.2.2.1, d.2.2.2.2.2.2.2.2.2.1, d.2.2.2.2.2.2.2.2.2.2.1, d.2.2.2.2.2.2.2.2.2.2.2) g2 ∧ (∀ post (postX : String → Unit → Prop), post (v, hKK hn hK d, M, P, hnK hn, hcK hc) → wp_X8_exchange d hn hc hK p0 p1 post postX) ∧ ∀ post, post (v, mnK pasts, 0, g2, mpK past pasts g) → wp_X9_exchange g past pasts p0 p1 post) ∨ JR (wp_X8_exchange d hn hc hK p0 p1) (wp_X9_exchange g past pasts p0 p1) sIO (0, pasts, 1, g, past) := by
  cases w0 : wi p0 0 (g 0 - 1) with
  | false => exact Or.inr ⟨fun post postX h => tc_needM hR (bb_f w0 h), fun post h => tm_isM (bb_f w0 h)⟩
  | true =>
    cases w1 : wi p1 0 (g 0 - 1) with
    | false => exact Or.inr ⟨fun post postX h => tc_needM hR (bb_t w0 (tc_needM hR (bb_f w1 h))), fun post h => tm_isM (bb_t w0 (tm_isM (bb_f w1 h)))⟩
    | true =>
      obtain ⟨m, hm, h6, rfl⟩ := wi_M hR w0
      obtain ⟨k, hk, _, rfl⟩ := wi_M hR w1
      refine Or.inl ⟨nI (if m = k then 0 else max m k - min m k - 1), _, _, _, Rel_exch hR hm hk, fun post postX h => tc_needM hR (bb_t w0 (tc_needM hR (bb_t w1 (tc_keep hH (tb_swap (W := 7) (I := m) (J := k) rfl rfl rfl (by omega) (by omega) (by omega) (by omega) (by omega) (by omega) (tb_swap (W := 5) (I := m) (J := k) rfl rfl rfl (by omega) (by omega) (by omega) (by omega) (by omega) (by omega) (pk_eq m k (fun e => ?_) (fun e => ?_)))))))), fun post h => tm_exch hR hH hm hk h⟩
      · rw [if_pos e] at h; exact h
      · rw [if_neg e] at h
        rw [xAbs_6 m (by omega) k (by omega) e]
        exact h
theorem u_setM {p0 p1 p2 : Int32} (hR : Rel b d g) (hH : HR b hn hc hK past pasts) : (∃ (v : Int32) (F g2 : XRow), Rel b (d.1, F, d.2.2.1, d.2.2.2.1, d.2.2.2.2.1, d.2.2.2.2.2.1, d.2.2.2.2.2.2.1, d.2.2.2.2.2.2.2.1, d.2.2.2.2.2.2.2.2.1, d.2.2.2.2.2.2.2.2.2.1, d.2.2.2.2.2.2.2.2.2.2.1, d.2.2.2.2.2.2.2.2.2.2.2) g2 ∧ (∀ post (postX : String → Unit → Prop), post (v, hKK hn hK d, F, hnK hn, hcK hc) → wp_X8_setMachine d hn hc hK p0 p1 p2 post postX) ∧ ∀ post, post (v, mnK pasts, 0, g2, mpK past pasts g) → wp_X9_setMachine g past pasts p0 p1 p2 post) ∨ JR (wp_X8_setMachine d hn hc hK p0 p1 p2) (wp_X9_setMachine g past pasts p0 p1 p2) sIO (0, pasts, 1, g, past) ∨ JR (wp_X8_setMachine d hn hc hK p0 p1 p2) (wp_X9_setMachine g past pasts p0 p1 p2) sIA (0, pasts, 2, g, past) := by
  cases w0 : wi p0 0 (g 0 - 1) with
  | false => exact Or.inr (Or.inl ⟨fun post postX h => tc_needM hR (bb_f w0 h), fun post h => tm_isM (bb_f w0 h)⟩)
  | true =>
    cases w1 : wi p1 0 4 with
    | false => exact Or.inr (Or.inr ⟨fun post postX h => tc_needM hR (bb_t w0 (tc_fit01x w1 (bb_f rfl h))), fun post h => tm_isM (bb_t w0 (tm_mayBex w1 (bb_f rfl h)))⟩)
    | true =>
      obtain ⟨m, hm, h6, rfl⟩ := wi_M hR w0
      obtain ⟨j, hj, rfl⟩ := wi_0 (n := 4) rfl (by omega) w1
      have hjb := mb_le j
      cases w2 : wi p2 (nI (mlo j)) (nI (mhi j)) with
      | false => exact Or.inr (Or.inr ⟨fun post postX h => tc_needM hR (bb_t w0 (tc_fit01 (by omega) (bb_f w2 h))), fun post h => tm_isM (bb_t w0 (tm_mayBe (by omega) (bb_f w2 h)))⟩)
      | true =>
        refine Or.inl ⟨g (26 + 11 * m + j), _, _, Rel_setM hR hm (show j < 5 by omega) (wi_ok (a := mlo j) (b := mhi j) rfl rfl (by omega) (by omega) w2), fun post postX h => tc_needM hR (bb_t w0 (tc_fit01 (by omega) (bb_t w2 (tc_keep hH (tb_get (W := 7) (I := m) (J := j) rfl rfl rfl (by omega) (by omega) (tb_put (W := 7) (I := m) (J := j) rfl rfl rfl (by omega) (by omega) ?_)))))), fun post h => tm_isM (bb_t w0 (tm_mayBe (by omega) (bb_t w2 (tm_changes hH (tm_mAt (m := m) (w := j) rfl rfl ⟨v672 (by omega), fun x hx => tm_mAt (m := m) (w := j) rfl rfl ⟨v672 (by omega), ?_⟩⟩)))))⟩
        · rw [(Rel_M hR m hm).1 j (by omega)]
          exact h
        · rw [hx, tn_nI (by omega)]
          exact h
theorem u_set {p0 p1 : Int32} (hR : Rel b d g) (hH : HR b hn hc hK past pasts) : (∃ (v : Int32) (F g2 : XRow), Rel b (F, d.2.1, d.2.2.1, d.2.2.2.1, d.2.2.2.2.1, d.2.2.2.2.2.1, d.2.2.2.2.2.2.1, d.2.2.2.2.2.2.2.1, d.2.2.2.2.2.2.2.2.1, d.2.2.2.2.2.2.2.2.2.1, d.2.2.2.2.2.2.2.2.2.2.1, d.2.2.2.2.2.2.2.2.2.2.2) g2 ∧ (∀ post (postX : String → Unit → Prop), post (v, hKK hn hK d, F, hnK hn, hcK hc) → wp_X8_set d hn hc hK p0 p1 post postX) ∧ ∀ post, post (v, mnK pasts, 0, g2, mpK past pasts g) → wp_X9_set g past pasts p0 p1 post) ∨ JR (wp_X8_set d hn hc hK p0 p1) (wp_X9_set g past pasts p0 p1) sIO (0, pasts, 1, g, past) ∨ JR (wp_X8_set d hn hc hK p0 p1) (wp_X9_set g past pasts p0 p1) sIA (0, pasts, 2, g, past) := by
  cases w0 : wi p0 0 4 with
  | false => exact Or.inr (Or.inl ⟨fun post postX h => tw_wi (bb_f w0 h), fun post h => tw_in (bb_f w0 h)⟩)
  | true =>
    obtain ⟨j, hj, rfl⟩ := wi_0 (n := 4) rfl (by omega) w0
    have hjb := sb_le j
    cases w2 : wi p1 (nI (slo j)) (nI (shi j)) with
    | false => exact Or.inr (Or.inr ⟨fun post postX h => tw_wi (bb_t w0 (tc_fit23 (by omega) (bb_f w2 h))), fun post h => tw_in (bb_t w0 (tm_maySet (by omega) (bb_f w2 h)))⟩)
    | true =>
      refine Or.inl ⟨g (6 + j), _, _, Rel_set hR (show j < 5 by omega) (wi_ok (a := slo j) (b := shi j) rfl rfl (by omega) (by omega) w2), fun post postX h => tw_wi (bb_t w0 (tc_fit23 (by omega) (bb_t w2 (tc_keep hH (tb_get (W := 5) (I := 0) (J := j) rfl rfl rfl (by omega) (by omega) (tb_put (W := 5) (I := 0) (J := j) rfl rfl rfl (by omega) (by omega) ?_)))))), fun post h => tw_in (bb_t w0 (tm_maySet (by omega) (bb_t w2 (tm_changes hH ?_))))⟩
      · rw [show 0 * 5 + j = j by omega, Rel_S hR j (by omega)]
        exact h
      · rw [a6]
        refine ⟨v672 (by omega), fun x hx => ⟨v672 (by omega), ?_⟩⟩
        rw [hx, tn_nI (by omega)]
        exact h
theorem u_seed {p0 : Int32} (hR : Rel b d g) (hH : HR b hn hc hK past pasts) : Rel b (d.1, d.2.1, d.2.2.1, d.2.2.2.1, d.2.2.2.2.1, d.2.2.2.2.2.1, d.2.2.2.2.2.2.1, d.2.2.2.2.2.2.2.1, d.2.2.2.2.2.2.2.2.1, d.2.2.2.2.2.2.2.2.2.1, p0, d.2.2.2.2.2.2.2.2.2.2.2) (upd g 1 p0) ∧ (∀ post, post (g 1, hKK hn hK d, p0, hnK hn, hcK hc) → wp_X8_seed d hn hc hK p0 post) ∧ ∀ post, post (g 1, mnK pasts, 0, upd g 1 p0, mpK past pasts g) → wp_X9_seed g past pasts p0 post := by
  refine ⟨Rel_seed hR, fun post h => tc_keep hH ?_, fun post h => tm_changes hH ⟨v672 (n := 1) (by omega), fun x hx => ⟨v672 (n := 1) (by omega), ?_⟩⟩⟩
  · rw [Rel_z hR]
    exact h
  · rw [hx]
    exact h
theorem u_feed {p0 p1 : Int32} (hb : b ≤ 600) (hR : Rel b d g) (hH : HR b hn hc hK past pasts) : (∃ (v : Int32) (F g2 : XRow), Rel (b + 1) (d.1, d.2.1, F, d.2.2.2.1, d.2.2.2.2.1, d.2.2.2.2.2.1, d.2.2.2.2.2.2.1, d.2.2.2.2.2.2.2.1, d.2.2.2.2.2.2.2.2.1, d.2.2.2.2.2.2.2.2.2.1, d.2.2.2.2.2.2.2.2.2.2.1, d.2.2.2.2.2.2.2.2.2.2.2) g2 ∧ (∀ post (postX : String → Unit → Prop), post (v, hKK hn hK d, F, hnK hn, hcK hc) → wp_X8_feed d hn hc hK p0 p1 post postX) ∧ ∀ post, post (v, mnK pasts, 0, g2, mpK past pasts g) → wp_X9_feed g past pasts p0 p1 post) ∨ JR (wp_X8_feed d hn hc hK p0 p1) (wp_X9_feed g past pasts p0 p1) sIO (0, pasts, 1, g, past) ∨ JR (wp_X8_feed d hn hc hK p0 p1) (wp_X9_feed g past pasts p0 p1) sIA (0, pasts, 2, g, past) ∨ JR (wp_X8_feed d hn hc hK p0 p1) (wp_X9_feed g past pasts p0 p1) sIS (0, pasts, 3, g, past) := by
  have es : i5 d.2.2.1 (6 * 5) = nI (s5 (kq g 11)) := i5_nI (q := kq g 11) (fun k hk => ((Rel_P hR).1 k hk).1.trans ((Inv_K hR.1).1 k hk).1)
  unfold wp_X8_feed wp_X9_feed wp_X4_faultOfFeed wp_X9_againstFeed
  cases w0 : wi p0 0 4 with
  | false => exact Or.inr (Or.inl ⟨fun post postX h => tw_mat (bb_f w0 (rf1 h)), fun post h => tw_mat9 (bb_f w0 (if_n (by decide) h))⟩)
  | true =>
    cases w1 : wi p1 1 999 with
    | false => exact Or.inr (Or.inr (Or.inl ⟨fun post postX h => tw_mat (bb_t w0 (tw_wi (bb_f w1 (rf2 h)))), fun post h => tw_mat9 (bb_t w0 (tw_in (bb_f w1 (if_n (by decide) h))))⟩))
    | true =>
      obtain ⟨m, hm, rfl⟩ := wi_0 (n := 4) rfl (by omega) w0
      obtain ⟨n, hn1, hn2, rfl⟩ := wi_ok (a := 1) (b := 999) rfl rfl (by omega) (by omega) w1
      by_cases hS : nI (s5 (kq g 11)) + nI n ≤ 9999
      · refine Or.inl ⟨g (11 + m) + nI n, _, _, Rel_feed hb hR (show m < 5 by omega) hn2, fun post postX h => tw_mat (bb_t w0 (tw_wi (bb_t w1 (tb_sum (I := 6) rfl (by omega) (by omega) ?_)))), fun post h => tw_mat9 (bb_t w0 (tw_in (bb_t w1 (tq_sum (a := 11) rfl (by omega) ?_))))⟩
        · rw [es]
          refine if_y hS (rf0 (tc_keep hH (tc_fill (by omega) ?_)))
          have ev : upd (upd d.2.2.1 (6 * 5 + m) (d.2.2.1 (6 * 5 + m) + nI n)) (8 * 5 + m) (upd d.2.2.1 (6 * 5 + m) (d.2.2.1 (6 * 5 + m) + nI n) (8 * 5 + m) + nI n) (6 * 5 + m) = g (11 + m) + nI n := by
            rw [un (by omega), u_at rfl, show 6 * 5 + m = 30 + m by omega, ((Rel_P hR).1 m (by omega)).1]
          rw [ev]
          exact h
        · rw [i5_g (fun k hk => ((Inv_K hR.1).1 k hk).1)]
          exact if_y hS (if_y (by decide) (tm_changes hH (tm_feeds (by omega) h)))
      · refine Or.inr (Or.inr (Or.inr ⟨fun post postX h => tw_mat (bb_t w0 (tw_wi (bb_t w1 (tb_sum (I := 6) rfl (by omega) (by omega) ?_)))), fun post h => tw_mat9 (bb_t w0 (tw_in (bb_t w1 (tq_sum (a := 11) rfl (by omega) ?_))))⟩))
        · rw [es]
          exact if_n hS (rf3 h)
        · rw [i5_g (fun k hk => ((Inv_K hR.1).1 k hk).1)]
          exact if_n hS (if_n (by decide) h)
theorem u_run {p0 : Int32} {mtrial mpart mcome : XRow} (hb : b ≤ 600) (hR : Rel b d g) (hH : HR b hn hc hK past pasts) : (∃ (v : Int32) (g2 : XRow), (∀ post (postX : String → Unit → Prop), (∀ (M P N : XRow) (bc z pc : Int32) (R : XRow), Rel b (dPq d M P N bc z pc) g2 → post (v, hKK hn hK d, z, pc, M, P, bc, N, R, hnK hn, hcK hc)) → wp_X8_run d hn hc hK p0 post postX) ∧ ∀ post, (∀ T p c, post (v, mnK pasts, 0, g2, T, mpK past pasts g, p, c)) → wp_X9_run g mtrial past mpart mcome pasts p0 post) ∨ JR (wp_X8_run d hn hc hK p0) (wp_X9_run g mtrial past mpart mcome pasts p0) sIA (0, pasts, 1, g, mtrial, past, mpart, mcome) ∨ JR (wp_X8_run d hn hc hK p0) (wp_X9_run g mtrial past mpart mcome pasts p0) sIS (0, pasts, 2, g, mtrial, past, mpart, mcome) := by
  obtain ⟨e0, h6⟩ := IM_mc (Inv_M hR.1)
  unfold wp_X8_run wp_X9_run wp_X4_faultOfPasses wp_X9_againstRun
  cases w0 : wi p0 1 200 with
  | false => exact Or.inr (Or.inl ⟨fun post postX h => tw_wi (bb_f w0 (rf2 h)), fun post h => tw_in (bb_f w0 (if_n (by decide) h))⟩)
  | true =>
    by_cases h0 : 0 < cn (g 0)
    · obtain ⟨m, _, hm, em⟩ := wi_ok (a := 1) (b := 200) rfl rfl (by omega) (by omega) w0
      refine Or.inl ⟨nI (rnG m 0 g).1, (rnG m 0 g).2, fun post postX h => tw_wi (bb_t w0 (if_y (by rw [Rel_mc hR, e0]; exact nI_lt (a := 0) h0 (by omega)) (rf0 (tc_keep hH (tc_passes (lim := m) hb hR em hm (fun M P N bc z pc R' hh => h _ _ _ _ _ _ _ hh)))))), fun post h => tw_in (bb_t w0 ⟨v672 (n := 0) (by omega), if_n ?_ (if_y (by decide) (tm_changes hH (tm_passes (lim := m) hb hR em hm h)))⟩)⟩
      show ¬ g 0 = 0
      rw [e0]
      exact nI_ne0 h0 (by omega)
    · have e2 : cn (g 0) = 0 := by omega
      refine Or.inr (Or.inr ⟨fun post postX h => tw_wi (bb_t w0 (if_n (by rw [Rel_mc hR, e0, e2]; decide) (rf3 h))), fun post h => tw_in (bb_t w0 ⟨v672 (n := 0) (by omega), if_y ?_ (if_n (by decide) h)⟩)⟩)
      show g 0 = 0
      rw [e0, e2]
      rfl
theorem u_con {p0 p1 p2 p3 : Int32} (hR : Rel b d g) (hH : HR b hn hc hK past pasts) : (∃ (v N : Int32) (F g2 : XRow), Rel b (d.1, d.2.1, d.2.2.1, d.2.2.2.1, d.2.2.2.2.1, d.2.2.2.2.2.1, F, N, d.2.2.2.2.2.2.2.2.1, d.2.2.2.2.2.2.2.2.2.1, d.2.2.2.2.2.2.2.2.2.2.1, d.2.2.2.2.2.2.2.2.2.2.2) g2 ∧ (∀ post (postX : String → Unit → Prop), post (v, hKK hn hK d, N, F, hnK hn, hcK hc) → wp_X8_contract d hn hc hK p0 p1 p2 p3 post postX) ∧ ∀ post, post (v, mnK pasts, 0, g2, mpK past pasts g) → wp_X9_contract g past pasts p0 p1 p2 p3 post) ∨ JR (wp_X8_contract d hn hc hK p0 p1 p2 p3) (wp_X9_contract g past pasts p0 p1 p2 p3) sIO (0, pasts, 1, g, past) ∨ JR (wp_X8_contract d hn hc hK p0 p1 p2 p3) (wp_X9_contract g past pasts p0 p1 p2 p3) sIA (0, pasts, 2, g, past) ∨ JR (wp_X8_contract d hn hc hK p0 p1 p2 p3) (wp_X9_contract g past pasts p0 p1 p2 p3) sIS (0, pasts, 3, g, past) := by
  obtain ⟨e3, h8⟩ := IC_nc (Inv_C hR.1)
  unfold wp_X8_contract wp_X9_contract wp_X1_faultOfNew wp_X9_againstContract
  cases w0 : wi p0 0 4 with
  | false => exact Or.inr (Or.inl ⟨fun post postX h => tw_mat (bb_f w0 (rf1 h)), fun post h => tw_mat9 (bb_f w0 (if_n (by decide) h))⟩)
  | true =>
    cases w1 : wi p1 0 1000 with
    | false => exact Or.inr (Or.inr (Or.inl ⟨fun post postX h => tw_mat (bb_t w0 (tw_wi (bb_f w1 (rf2 h)))), fun post h => tw_mat9 (bb_t w0 (tw_in (bb_f w1 (if_n (by decide) h))))⟩))
    | true =>
      cases w2 : wi p2 1 9999 with
      | false => exact Or.inr (Or.inr (Or.inl ⟨fun post postX h => tw_mat (bb_t w0 (tw_wi (bb_t w1 (tw_wi (bb_f w2 (rf2 h)))))), fun post h => tw_mat9 (bb_t w0 (tw_in (bb_t w1 (tw_in (bb_f w2 (if_n (by decide) h))))))⟩))
      | true =>
        cases w3 : wi p3 1 99 with
        | false => exact Or.inr (Or.inr (Or.inl ⟨fun post postX h => tw_mat (bb_t w0 (tw_wi (bb_t w1 (tw_wi (bb_t w2 (tw_wi (bb_f w3 (rf2 h)))))))), fun post h => tw_mat9 (bb_t w0 (tw_in (bb_t w1 (tw_in (bb_t w2 (tw_in (bb_f w3 (if_n (by decide) h))))))))⟩))
        | true =>
          by_cases hc8 : cn (g 3) < 8
          · refine Or.inl ⟨nI (cn (g 3)), nI (cn (g 3) + 1), _, _, Rel_con (a0 := p0) (a1 := p1) (a2 := p2) (a3 := p3) hR hc8 (wi_ok (a := 0) (b := 4) rfl rfl (by omega) (by omega) w0) (wi_ok (a := 0) (b := 1000) rfl rfl (by omega) (by omega) w1) (wi_ok (a := 1) (b := 9999) rfl rfl (by omega) (by omega) w2) (wi_ok (a := 1) (b := 99) rfl rfl (by omega) (by omega) w3), fun post postX h => tw_mat (bb_t w0 (tw_wi (bb_t w1 (tw_wi (bb_t w2 (tw_wi (bb_t w3 (if_y (by rw [Rel_cc hR, e3]; exact nI_lt (b := 8) hc8 (by omega)) (rf0 (tc_keep hH ?_)))))))))), fun post h => tw_mat9 (bb_t w0 (tw_in (bb_t w1 (tw_in (bb_t w2 (tw_in (bb_t w3 (⟨v672 (n := 3) (by omega), if_n ?_ (if_y (by decide) (tm_changes hH (tm_cons (Inv_C hR.1) hc8 ?_)))⟩))))))))⟩
            · show wp_X1_add d.2.2.2.2.2.2.1 d.2.2.2.2.2.2.2.1 p0 p1 p2 p3 _
              rw [Rel_cc hR, e3]
              exact tc_cadd hc8 h
            · show ¬ g 3 = 8
              rw [e3]
              exact nI_ne (a := cn (g 3)) (c := 8) (by omega) (by omega) (by omega)
            · rw [e3]
              exact h
          · have e8 : cn (g 3) = 8 := by omega
            refine Or.inr (Or.inr (Or.inr ⟨fun post postX h => tw_mat (bb_t w0 (tw_wi (bb_t w1 (tw_wi (bb_t w2 (tw_wi (bb_t w3 (if_n (by rw [Rel_cc hR, e3]; exact nI_nlt (a := cn (g 3)) (b := 8) (by omega) (by omega)) (rf3 h))))))))), fun post h => tw_mat9 (bb_t w0 (tw_in (bb_t w1 (tw_in (bb_t w2 (tw_in (bb_t w3 (⟨v672 (n := 3) (by omega), if_y ?_ (if_n (by decide) h)⟩))))))))⟩))
            show g 3 = 8
            rw [e3, e8]
            rfl
theorem u_save {ds : PD} {mkept : XRow} (hR : Rel b d g) : Rel b (cpPD ds d) (va_cpy g mkept 0 0 672) ∧ (∀ post, post (g 2, 1, (cpPD ds d).2.2.2.2.2.2.2.2.2.1, (cpPD ds d).2.2.2.2.2.2.2.2.2.2.1, (cpPD ds d).2.2.2.2.2.2.2.2.2.2.2, (cpPD ds d).1, (cpPD ds d).2.1, (cpPD ds d).2.2.1, (cpPD ds d).2.2.2.2.1, (cpPD ds d).2.2.2.1, (cpPD ds d).2.2.2.2.2.2.2.1, (cpPD ds d).2.2.2.2.2.2.1) → wp_X8_save d ds post) ∧ ∀ post, post (g 2, 1, 0, va_cpy g mkept 0 0 672) → wp_X9_save g mkept post := by
  refine ⟨Rel_copy (Rel_eq (fun x hx => cp_row hx) hR), fun post h => e_pcopy ?_, fun post h => tq_copies (A := 0) (C := 0) rfl rfl (by omega) (by omega) (by omega) (by omega) ⟨v672 (n := 2) (by omega), h⟩⟩
  rw [← Rel_bc hR] at h
  exact h
/-- what was saved -/
def RS2 (b : Nat) (sv : Int32) (ds : PD) (mkept : XRow) (mhk : Int32) : Prop := (sv = 0 ∧ mhk = 0) ∨ (sv = 1 ∧ mhk = 1 ∧ Rel b ds mkept)
theorem HR_0 (hH : HR b hn hc hK past pasts) : HR b hn 0 hK past 0 := by
  obtain ⟨j, k, h1, _, h3, _⟩ := hH
  exact ⟨j, 0, h1, by omega, h3, rfl, rfl, fun i hi => absurd hi (Nat.not_lt_zero i)⟩
theorem u_rest {sv mhk : Int32} {ds : PD} {mkept : XRow} (hS : RS2 b sv ds mkept mhk) : (∃ (v : Int32) (g2 : XRow), Rel b (cpPD d ds) g2 ∧ (∀ post (postX : String → Unit → Prop), post (v, (cpPD d ds).2.2.2.2.2.2.2.2.2.1, (cpPD d ds).2.2.2.2.2.2.2.2.2.2.1, (cpPD d ds).2.2.2.2.2.2.2.2.2.2.2, (cpPD d ds).1, (cpPD d ds).2.1, (cpPD d ds).2.2.1, (cpPD d ds).2.2.2.2.1, (cpPD d ds).2.2.2.1, (cpPD d ds).2.2.2.2.2.2.2.1, (cpPD d ds).2.2.2.2.2.2.1, 0) → wp_X8_restore sv d ds post postX) ∧ ∀ post, post (v, 0, 0, g2) → wp_X9_restore g mkept mhk pasts post) ∨ JR (wp_X8_restore sv d ds) (wp_X9_restore g mkept mhk pasts) sIS (0, pasts, 1, g) := by
  rcases hS with ⟨rfl, rfl⟩ | ⟨rfl, rfl, hk⟩
  · exact Or.inr ⟨fun post postX h => if_y rfl h, fun post h => if_y rfl (if_y rfl h)⟩
  · refine Or.inl ⟨mkept 2, va_cpy mkept g 0 0 672, Rel_copy (Rel_eq (fun x hx => cp_row hx) hk), fun post postX h => if_n (by decide) (e_pcopy ?_), fun post h => if_n (by decide) (if_n (by decide) (tq_copies (A := 0) (C := 0) rfl rfl (by omega) (by omega) (by omega) (by omega) ⟨v672 (n := 2) (by omega), ?_⟩))⟩
    · rw [← (Rel_bc hk : ds.2.2.2.2.1 = mkept 2)] at h
      exact h
    · have e : va_cpy mkept g 0 0 672 ((2 : Int32).toNatClampNeg) = mkept 2 := cp_row (by decide)
      rw [e]
      exact h
end CH
