/-! ===== level 2: would a bale be sold; all sold; the order ===== -/
section L3
variable {b b0 : Nat} {d : PD} {g : XRow}
theorem mw_some {i c : Nat} : ∀ n, c < n → reB g i c = true → mwN g i n ≠ none
  | 0, h, _ => absurd h (Nat.not_lt_zero _)
  | n + 1, h, hr => by
    have e1 : mwN g i (n + 1) = bif reB g i n then mwS (cn (g (94 + 5 * n))) (mwN g i n) else mwN g i n := rfl
    rw [e1]
    cases hn : reB g i n with
    | true =>
      show mwS _ _ ≠ none
      cases mwN g i n with
      | none => exact fun h => by cases h
      | some l => exact fun h => by cases h
    | false =>
      show mwN g i n ≠ none
      by_cases e : c = n
      · subst e; rw [hr] at hn; cases hn
      · exact mw_some n (by omega) hr
theorem agR_some {i c : Nat} (h9 : g (139 + 9 * i) = 0) (hb : bfN g i (cn (g 3)) = some c) : agR g i = 0 := by
  obtain ⟨h1, h2⟩ := bfN_lt hb
  rw [suB_eq, Bool.and_eq_true] at h2
  have hm := mw_some (g := g) (i := i) (cn (g 3)) h1 h2.1
  unfold agR
  rw [if_pos h9]
  cases hl : lfN g i (cn (g 3)) with
  | none => exact absurd ((mw_lf (cn (g 3))).mpr (fun l h => by rw [hl] at h; cases h)) hm
  | some l =>
    cases hw : mwN g i (cn (g 3)) with
    | none => exact absurd hw hm
    | some w => rw [hb]
/-- whom a bale would go to -/
theorem j_would {p0 md : Int32} (hR : Rel b d g) : (∃ v, (∀ post postX, post v → wp_X8_wouldSell d p0 post postX) ∧ ∀ post, (∀ md', post (v, 0, md')) → wp_X9_wouldSell g md p0 post) ∨ ((∀ post (postX : String → Unit → Prop), postX "java/lang/IndexOutOfBoundsException" () → wp_X8_wouldSell d p0 post postX) ∧ ∀ post, (∀ md', post (0, 1, md')) → wp_X9_wouldSell g md p0 post) ∨ ((∀ post (postX : String → Unit → Prop), postX "java/util/NoSuchElementException" () → wp_X8_wouldSell d p0 post postX) ∧ ∀ post, (∀ md', post (0, 2, md')) → wp_X9_wouldSell g md p0 post) := by
  cases w : wi p0 0 (g 2 - 1) with
  | false => exact Or.inr (Or.inl ⟨fun post postX h => tc_needB hR (bb_f w h), fun post h => tm_isB (bb_f w (h _))⟩)
  | true =>
    obtain ⟨i, hi, h60, em⟩ := wi_B hR w
    have hC := Inv_C hR.1
    have hB := (Inv_B hR.1).2 i hi
    have h8 := (IC_nc hC).2
    have h4 := agR_le g i
    have yes : (∃ c, g (139 + 9 * i) = 0 ∧ bfN g i (cn (g 3)) = some c) → (∃ v, (∀ post postX, post v → wp_X8_wouldSell d p0 post postX) ∧ ∀ post, (∀ md', post (v, 0, md')) → wp_X9_wouldSell g md p0 post) := fun ⟨c, h9, hb⟩ => by
      have ha := agR_some h9 hb
      have h31 := bf_31 (g := g) (i := i) h8 c hb
      refine ⟨nI c, fun post postX h => tc_needB hR (bb_t w (tc_buyer hR em hi ?_)), fun post h => tm_isB (bb_t w (tm_against (i := i) em hC hB (by omega) (pk_le (agR g i) 0 (fun _ => tm_best em hC hB (by omega) ?_) (fun h2 => ?_))))⟩
      · rw [if_pos h9, hb]
        exact if_n (nI_m1 h31) h
      · rw [hb]; exact h _
      · omega
    have no : agR g i ≠ 0 → ((∀ post (postX : String → Unit → Prop), postX "java/util/NoSuchElementException" () → wp_X8_wouldSell d p0 post postX) ∧ ∀ post, (∀ md', post (0, 2, md')) → wp_X9_wouldSell g md p0 post) := fun ha => by
      refine ⟨fun post postX h => tc_needB hR (bb_t w (tc_buyer hR em hi ?_)), fun post h => tm_isB (bb_t w (tm_against (i := i) em hC hB (by omega) (pk_le (agR g i) 0 (fun h2 => ?_) (fun _ => h _))))⟩
      · by_cases h9 : g (139 + 9 * i) = 0
        · rw [if_pos h9]
          cases hb : bfN g i (cn (g 3)) with
          | none => exact if_y rfl h
          | some c => exact absurd (agR_some h9 hb) ha
        · rw [if_neg h9]; exact if_y rfl h
      · exact absurd (by omega) ha
    by_cases ha : agR g i = 0
    · obtain ⟨h9, c, hb⟩ := agR_0 ha
      exact Or.inl (yes ⟨c, h9, hb⟩)
    · exact Or.inr (Or.inr (no ha))
/-- all sold -/
theorem tc_sellAll {hn hc pasts : Int32} {hK : Nat → PD} {past : XRow} {post : (Int32 × (Nat → PD) × XRow × XRow × XRow × Int32 × Int32) → Prop} (hR : Rel b d g) (hH : HR b0 hn hc hK past pasts) (h : ∀ s N C, Rel b (dNC d N C) (sA (orN g (cn (g 2))).2 g (orN g (cn (g 2))).1).2 → post (nI (sA (orN g (cn (g 2))).2 g (orN g (cn (g 2))).1).1, hKK hn hK d, N, s, C, hnK hn, hcK hc)) : wp_X8_sellAll d hn hc hK post :=
  tc_keep hH (tc_handAll hR (fun s N C _ hr => h s N C hr))
theorem tm_sellAll2 {hn hc pasts : Int32} {hK : Nat → PD} {past s0 : XRow} {post : Int32 × Int32 × Int32 × Int32 × XRow × XRow × XRow → Prop} (hR : Rel b d g) (hH : HR b hn hc hK past pasts) (h : ∀ n s, post (nI (sA (orN g (cn (g 2))).2 g (orN g (cn (g 2))).1).1, mnK pasts, 0, n, (sA (orN g (cn (g 2))).2 g (orN g (cn (g 2))).1).2, mpK past pasts g, s)) : wp_X9_sellAll g past s0 pasts post := by
  obtain ⟨o1, o2, o3⟩ := orN_ok g (cn (g 2))
  refine tm_sellAll hR hH (fun k hk => ?_) (fun s _ => h _ _)
  obtain ⟨d', hd⟩ := sA_Rel hR o2 o3 k hk
  exact hd.1
/-- the order -/
theorem j_ordered {p0 : Int32} {s0 : XRow} (hR : Rel b d g) : (∃ v, (∀ post postX, (∀ s, post (v, s)) → wp_X8_ordered d p0 post postX) ∧ ∀ post, (∀ n s, post (v, 0, n, s)) → wp_X9_ordered g s0 p0 post) ∨ ((∀ post (postX : String → XRow → Prop), (∀ s, postX "java/util/NoSuchElementException" s) → wp_X8_ordered d p0 post postX) ∧ ∀ post, (∀ n s, post (0, 1, n, s)) → wp_X9_ordered g s0 p0 post) := by
  obtain ⟨o1, o2, o3⟩ := orN_ok g (cn (g 2))
  have hB := Inv_B hR.1
  have h60 := (IB_nb hB).2
  cases w : wi p0 0 (nI (orN g (cn (g 2))).1 - 1) with
  | false => exact Or.inr ⟨fun post postX h => tc_order hB (Rel_N hR) (Rel_bc hR) (fun s _ => tw_wi (bb_f w (h s))), fun post h => tm_order hB (fun s _ => tw_in (bb_f w (h _ s)))⟩
  | true =>
    obtain ⟨i, hi, em⟩ := wi_m1 rfl (by omega) w
    refine Or.inl ⟨nI ((orN g (cn (g 2))).2 i), fun post postX h => tc_order hB (Rel_N hR) (Rel_bc hR) (fun s hs => tw_wi (bb_t w (tb_get (W := 60) (I := 0) (J := i) rfl rfl em (by omega) (by omega) ?_))), fun post h => tm_order hB (fun s hs => tw_in (bb_t w ⟨by rw [em]; exact vp_in_nI (by omega) (by omega), ?_⟩))⟩
    · rw [show 0 * 60 + i = i by omega]
      show post (s i, s)
      rw [hs i hi]; exact h s
    · rw [em, nI_clamp (by omega)]
      show post (s i, 0, _, s)
      rw [hs i hi]; exact h _ s
end L3
