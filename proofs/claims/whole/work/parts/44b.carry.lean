/-! ===== level 2: a command refused or carried out ===== -/
theorem arN_2 (k : Int32) : 2 ≤ arN k := by
  unfold arN
  split
  · omega
  · split <;> omega
theorem agR_0 {g : XRow} {i : Nat} (h : agR g i = 0) : g (139 + 9 * i) = 0 ∧ ∃ c, bfN g i (cn (g 3)) = some c := by
  unfold agR at h
  by_cases hs : g (139 + 9 * i) = 0
  · rw [if_pos hs] at h
    refine ⟨hs, ?_⟩
    cases hl : lfN g i (cn (g 3)) with
    | none => rw [hl] at h; replace h : (2 : Nat) = 0 := h; omega
    | some l =>
      rw [hl] at h
      cases hm : mwN g i (cn (g 3)) with
      | none => rw [hm] at h; replace h : (3 : Nat) = 0 := h; omega
      | some w =>
        rw [hm] at h
        cases hf : bfN g i (cn (g 3)) with
        | none => rw [hf] at h; replace h : (4 : Nat) = 0 := h; omega
        | some c => exact ⟨c, rfl⟩
  · rw [if_neg hs] at h; omega
theorem stB_99 {g : XRow} {r : Nat → Int32} (k : r 0 = 99) : stB g r = cB g (r 1) (r 2) (r 3) (r 4) ∧ stG g r = oCon g (r 1) (r 2) (r 3) (r 4) := ⟨if_pos k, if_pos k⟩
theorem stB_102 {g : XRow} {r : Nat → Int32} (k : r 0 = 102) : stB g r = fB g (r 1) (r 2) ∧ stG g r = oFeed g (cn (r 1)) (r 2) := by
  have n1 : ¬ r 0 = 99 := by rw [k]; decide
  exact ⟨(if_neg n1).trans (if_pos k), (if_neg n1).trans (if_pos k)⟩
theorem stB_114 {g : XRow} {r : Nat → Int32} (k : r 0 = 114) : stB g r = nB g (r 1) ∧ stG g r = (rnG (cn (r 1)) 0 g).2 := by
  have n1 : ¬ r 0 = 99 := by rw [k]; decide
  have n2 : ¬ r 0 = 102 := by rw [k]; decide
  exact ⟨(if_neg n1).trans ((if_neg n2).trans (if_pos k)), (if_neg n1).trans ((if_neg n2).trans (if_pos k))⟩
theorem stB_115 {g : XRow} {r : Nat → Int32} (k : ¬ r 0 = 99 ∧ ¬ r 0 = 102 ∧ ¬ r 0 = 114) : stB g r = sB g (r 1) ∧ stG g r = oSell g (cn (r 1)) ((bfN g (cn (r 1)) (cn (g 3))).getD 0) := by
  obtain ⟨n1, n2, n3⟩ := k
  exact ⟨(if_neg n1).trans ((if_neg n2).trans (if_neg n3)), (if_neg n1).trans ((if_neg n2).trans (if_neg n3))⟩
section CA
variable {b : Nat} {d : PD} {g : XRow}
theorem Rel_any {S M P N C R R' : XRow} {bc cc Mc z pc : Int32} {oo oo' : XRow} (h : Rel b (S, M, P, N, bc, oo, C, cc, R, Mc, z, pc) g) : Rel b (S, M, P, N, bc, oo', C, cc, R', Mc, z, pc) g := h
theorem tc_isRef {q : Nat} {r : Nat → Int32} {tC rP : XRow} {rL : Int32} {post : Bool × Int32 × XRow → Prop} (hR : Rel b d g) (hr : rOK r) (hT : ∀ j, j < arN (r 0) → tC (q * 5 + j) = r j) (hq : q ≤ 26) (h0 : stB g r = true → post (false, rL, rP)) (h1 : stB g r = false → ¬ (r 0 = 115 ∧ wi (r 1) 0 (g 2 - 1) = true) → post (true, rL, rP)) (h2 : stB g r = false → r 0 = 115 → wi (r 1) 0 (g 2 - 1) = true → ∀ R md, six R 9 (nI q) (r 1) (g (137 + 9 * cn (r 1))) (nI (agR g (cn (r 1)))) (agD g (cn (r 1)) md) → post (true, 3, R)) : wp_X8_isRefused d rP rL tC (nI q) post := by
  have a2 := arN_2 (r 0)
  have t0 : tC (q * 5 + 0) = r 0 := hT 0 (by omega)
  have t1 : tC (q * 5 + 1) = r 1 := hT 1 (by omega)
  unfold wp_X8_isRefused wp_X7_number
  refine tb_get (W := 5) (I := q) (J := 1) rfl rfl rfl (by omega) (by omega) (tb_get (W := 5) (I := q) (J := 2) rfl rfl rfl (by omega) (by omega) (tb_get (W := 5) (I := q) (J := 0) rfl rfl rfl (by omega) (by omega) ?_))
  rw [t0, t1]
  refine ⟨fun k => ?_, fun k => ?_, fun k => ?_, fun k => ?_⟩
  · have ea : arN (r 0) = 5 := by rw [k]; rfl
    obtain ⟨e, _⟩ := stB_99 (g := g) k
    refine tb_get (W := 5) (I := q) (J := 3) rfl rfl rfl (by omega) (by omega) (tb_get (W := 5) (I := q) (J := 4) rfl rfl rfl (by omega) (by omega) ?_)
    rw [hT 2 (by omega), hT 3 (by omega), hT 4 (by omega)]
    exact tc_fnew hR (fun h => if_y rfl (h0 (e.trans h))) (fun h v hv => if_n hv (h1 (e.trans h) (fun hh => absurd (k.symm.trans hh.1) (by decide))))
  · have ea : arN (r 0) = 3 := by rw [k]; rfl
    obtain ⟨e, _⟩ := stB_102 (g := g) k
    rw [hT 2 (by omega)]
    exact tc_ffeed hR (fun h => if_y rfl (h0 (e.trans h))) (fun h v hv => if_n hv (h1 (e.trans h) (fun hh => absurd (k.symm.trans hh.1) (by decide))))
  · obtain ⟨e, _⟩ := stB_114 (g := g) k
    exact tc_fpass hR (fun h => if_y rfl (h0 (e.trans h))) (fun h v hv => if_n hv (h1 (e.trans h) (fun hh => absurd (k.symm.trans hh.1) (by decide))))
  · obtain ⟨e, _⟩ := stB_115 (g := g) k
    have hk : r 0 = 115 := by
      rcases hr.1 with h | h | h | h
      · exact absurd h k.1
      · exact absurd h k.2.1
      · exact absurd h k.2.2
      · exact h
    unfold sB at e
    unfold wp_X0_isThere
    refine tw_wi ?_
    rw [Rel_bc hR]
    cases w : wi (r 1) 0 (g 2 - 1) with
    | false =>
      rw [w] at e
      exact bb_f rfl (h1 e (fun hh => Bool.noConfusion (hh.2.symm.trans w).symm))
    | true =>
      rw [w] at e
      obtain ⟨m, hm, h60, em⟩ := wi_B hR w
      have ec : cn (r 1) = m := by rw [em]; exact cn_nI (by omega)
      refine bb_t rfl (tc_fsale (i := m) hR em hm (nI_m1 (by omega)) (fun ha => bb_f rfl (h0 ?_)) (fun ha R md hs => bb_t rfl (h2 ?_ hk w R md ?_)))
      · rw [e, ec, decide_eq_true ha]; rfl
      · rw [e, ec, decide_eq_false ha]; rfl
      · rw [ec]; exact hs
theorem tc_carry {q : Nat} {r : Nat → Int32} {tC : XRow} {post : Int32 × Int32 × XRow × XRow × Int32 × XRow × Int32 × XRow × XRow → Prop} (hb : b ≤ 600) (hR : Rel b d g) (hr : rOK r) (hT : ∀ j, j < arN (r 0) → tC (q * 5 + j) = r j) (hq : q ≤ 26) (hs : stB g r = true) (h : ∀ v, Rel (b + 1) (nxD d v) (stG g r) → post v) : wp_X8_carryOut d tC (nI q) post := by
  have a2 := arN_2 (r 0)
  have t0 : tC (q * 5 + 0) = r 0 := hT 0 (by omega)
  have t1 : tC (q * 5 + 1) = r 1 := hT 1 (by omega)
  unfold wp_X8_carryOut wp_X7_number
  refine tb_get (W := 5) (I := q) (J := 1) rfl rfl rfl (by omega) (by omega) (tb_get (W := 5) (I := q) (J := 2) rfl rfl rfl (by omega) (by omega) (tb_get (W := 5) (I := q) (J := 0) rfl rfl rfl (by omega) (by omega) ?_))
  rw [t0, t1]
  refine ⟨fun k => ?_, fun k => ?_, fun k => ?_, fun k => ?_⟩
  · have ea : arN (r 0) = 5 := by rw [k]; rfl
    obtain ⟨e, eG⟩ := stB_99 (g := g) k
    obtain ⟨e3, h8⟩ := IC_nc (Inv_C hR.1)
    refine tb_get (W := 5) (I := q) (J := 3) rfl rfl rfl (by omega) (by omega) (tb_get (W := 5) (I := q) (J := 4) rfl rfl rfl (by omega) (by omega) ?_)
    rw [hT 2 (by omega), hT 3 (by omega), hT 4 (by omega), (Rel_cc hR).trans e3]
    have hs2 := e.symm.trans hs
    unfold cB at hs2
    rw [Bool.and_eq_true, Bool.and_eq_true, Bool.and_eq_true, Bool.and_eq_true] at hs2
    obtain ⟨⟨⟨⟨w0, w1⟩, w2⟩, w3⟩, w4⟩ := hs2
    have h3 := of_decide_eq_true w4
    refine tc_cadd h3 (h _ ?_)
    rw [eG]
    exact Rel_up (Rel_con hR h3 (wi_ok (a := 0) (b := 4) rfl rfl (by omega) (by omega) w0) (wi_ok (a := 0) (b := 1000) rfl rfl (by omega) (by omega) w1) (wi_ok (a := 1) (b := 9999) rfl rfl (by omega) (by omega) w2) (wi_ok (a := 1) (b := 99) rfl rfl (by omega) (by omega) w3)) (Nat.le_succ _)
  · have ea : arN (r 0) = 3 := by rw [k]; rfl
    obtain ⟨e, eG⟩ := stB_102 (g := g) k
    have hs2 := e.symm.trans hs
    unfold fB at hs2
    rw [Bool.and_eq_true, Bool.and_eq_true] at hs2
    obtain ⟨⟨w0, w1⟩, w2⟩ := hs2
    obtain ⟨m, _, hm, em⟩ := wi_ok (a := 0) (b := 4) rfl rfl (by omega) (by omega) w0
    obtain ⟨n, _, hn, en⟩ := wi_ok (a := 1) (b := 999) rfl rfl (by omega) (by omega) w1
    rw [hT 2 (by omega), em, en]
    refine tc_fill (by omega) (h _ ?_)
    rw [eG, em, en, cn_nI (by omega)]
    exact Rel_feed hb hR (by omega) hn
  · obtain ⟨e, eG⟩ := stB_114 (g := g) k
    have hs2 := e.symm.trans hs
    unfold nB at hs2
    rw [Bool.and_eq_true] at hs2
    obtain ⟨m, _, hm, em⟩ := wi_ok (a := 1) (b := 200) rfl rfl (by omega) (by omega) hs2.1
    have ec : cn (r 1) = m := by rw [em]; exact cn_nI (by omega)
    refine tc_passes (lim := m) hb hR em hm (fun M P N bc z pc R' hh => h _ ?_)
    rw [eG, ec]
    exact Rel_up (Rel_any hh) (Nat.le_succ _)
  · obtain ⟨e, eG⟩ := stB_115 (g := g) k
    have hs2 := e.symm.trans hs
    unfold sB at hs2
    rw [Bool.and_eq_true] at hs2
    obtain ⟨m, hm, h60, em⟩ := wi_B hR hs2.1
    have ec : cn (r 1) = m := by rw [em]; exact cn_nI (by omega)
    have ha := of_decide_eq_true hs2.2
    rw [ec] at ha
    obtain ⟨h9, c, hc⟩ := agR_0 ha
    refine tc_hand hR em hm h9 hc (h _ ?_)
    rw [eG, ec, hc]
    exact Rel_up (Rel_sell hR hm h9 hc) (Nat.le_succ _)
/-- the reference -/
theorem tm_step {q : Nat} {r : Nat → Int32} {T p c told : XRow} {md : Int32} {post : Bool × Int32 × XRow × XRow × XRow × XRow → Prop} (hb : b ≤ 600) (hR : Rel b d g) (hr : rOK r) (hT : ∀ j, j < arN (r 0) → told (q * 5 + j) = r j) (hq : q ≤ 26) (h0 : stB g r = true → ∀ md' T p c, post (true, md', stG g r, T, p, c)) (h1 : stB g r = false → ∀ md', post (false, md', g, T, p, c)) : wp_X9_does g T p c told md (nI q) post := by
  have a2 := arN_2 (r 0)
  have b0 : (5 : Int32) * nI q = nI (q * 5) := by rw [show (5 : Int32) = nI 5 from rfl, pk_mul, Nat.mul_comm]
  have b1 : (5 : Int32) * nI q + 1 = nI (q * 5 + 1) := by rw [b0]; exact nI_add _ 1
  have b2 : (5 : Int32) * nI q + 2 = nI (q * 5 + 2) := by rw [b0]; exact nI_add _ 2
  have b3 : (5 : Int32) * nI q + 3 = nI (q * 5 + 3) := by rw [b0]; exact nI_add _ 3
  have b4 : (5 : Int32) * nI q + 4 = nI (q * 5 + 4) := by rw [b0]; exact nI_add _ 4
  have t0 : told (q * 5) = r 0 := hT 0 (by omega)
  have t1 : told (q * 5 + 1) = r 1 := hT 1 (by omega)
  unfold wp_X9_does
  rw [b1, b2, b3, b4, b0, nI_clamp (by omega), nI_clamp (by omega), nI_clamp (by omega), nI_clamp (by omega), nI_clamp (by omega), t0, t1]
  refine ⟨vp_in_nI (by omega) (by omega), fun x1 hx1 => ⟨vp_in_nI (by omega) (by omega), fun x2 hx2 => ⟨vp_in_nI (by omega) (by omega), fun x3 hx3 => ⟨vp_in_nI (by omega) (by omega), fun x4 hx4 => ⟨vp_in_nI (by omega) (by omega), ?_⟩⟩⟩⟩⟩
  subst hx1
  refine ⟨fun k => ?_, fun k => ?_, fun k => ?_, fun k => ?_⟩
  · have ea : arN (r 0) = 5 := by rw [k]; rfl
    obtain ⟨e, eG⟩ := stB_99 (g := g) k
    obtain ⟨e3, h8⟩ := IC_nc (Inv_C hR.1)
    rw [hT 2 (by omega)] at hx2
    rw [hT 3 (by omega)] at hx3
    rw [hT 4 (by omega)] at hx4
    subst hx2 hx3 hx4
    refine tm_fnew hR.1 (fun h => if_y rfl ?_) (fun h v hv => if_n hv (h1 (e.trans h) _))
    have hs2 := h
    unfold cB at hs2
    rw [Bool.and_eq_true] at hs2
    have h3 := of_decide_eq_true hs2.2
    rw [eG] at h0
    refine tm_cons (Inv_C hR.1) h3 (if_n ?_ (h0 (e.trans h) _ _ _ _))
    show ¬ g 3 < 0
    rw [e3]; exact nI_pos (by omega)
  · have ea : arN (r 0) = 3 := by rw [k]; rfl
    obtain ⟨e, eG⟩ := stB_102 (g := g) k
    rw [hT 2 (by omega)] at hx2
    subst hx2
    refine tm_ffeed hR.1 (fun h => if_y rfl ?_) (fun h v hv => if_n hv (h1 (e.trans h) _))
    have hs2 := h
    unfold fB at hs2
    rw [Bool.and_eq_true, Bool.and_eq_true] at hs2
    obtain ⟨⟨w0, w1⟩, w2⟩ := hs2
    obtain ⟨m, _, hm, em⟩ := wi_ok (a := 0) (b := 4) rfl rfl (by omega) (by omega) w0
    obtain ⟨n, hn1, hn, en⟩ := wi_ok (a := 1) (b := 999) rfl rfl (by omega) (by omega) w1
    have ek : g (11 + m) = nI (cn (g (11 + m))) := ((Inv_K hR.1).1 m (by omega)).1
    have hl := hop_le (Inv_K hR.1) (show m < 5 by omega)
    rw [em, en]
    rw [eG, em, en, cn_nI (by omega)] at h0
    refine tm_feeds (by omega) (if_n ?_ (h0 (e.trans h) _ _ _ _))
    show ¬ g (11 + m) + nI n ≤ 0
    rw [ek, nI_add]
    exact nI_nle (by omega) (by omega)
  · obtain ⟨e, eG⟩ := stB_114 (g := g) k
    refine tm_fpass hR.1 (fun h => if_y rfl ?_) (fun h v hv => if_n hv (h1 (e.trans h) _))
    have hs2 := h
    unfold nB at hs2
    rw [Bool.and_eq_true] at hs2
    obtain ⟨m, _, hm, em⟩ := wi_ok (a := 1) (b := 200) rfl rfl (by omega) (by omega) hs2.1
    have ec : cn (r 1) = m := by rw [em]; exact cn_nI (by omega)
    rw [eG, ec] at h0
    exact tm_passes (lim := m) hb hR em hm (fun T p c => if_n (nI_pos (by have := rnG_le m 0 g; omega)) (h0 (e.trans h) _ _ _ _))
  · obtain ⟨e, eG⟩ := stB_115 (g := g) k
    unfold sB at e
    refine ⟨v672 (n := 2) (by omega), tw_in ?_⟩
    show (wi (r 1) 0 (g 2 - 1) = true → _) ∧ (wi (r 1) 0 (g 2 - 1) = false → _)
    cases w : wi (r 1) 0 (g 2 - 1) with
    | false => rw [w] at e; exact bb_f rfl (h1 e _)
    | true =>
      rw [w] at e
      obtain ⟨m, hm, h60, em⟩ := wi_B hR w
      have ec : cn (r 1) = m := by rw [em]; exact cn_nI (by omega)
      have h4 := agR_le g m
      refine bb_t rfl (tm_against (i := m) em (Inv_C hR.1) ((Inv_B hR.1).2 m hm) (by omega) ⟨fun hz => ?_, fun hz => ?_⟩)
      · have ha : agR g m = 0 := by
          by_cases e0 : agR g m = 0
          · exact e0
          · exact absurd hz (nI_ne0 (by omega) (by omega))
        obtain ⟨h9, c9, hc⟩ := agR_0 ha
        have h31 : c9 < 2 ^ 31 := bf_31 (by have := (IC_nc (Inv_C hR.1)).2; omega) _ hc
        rw [eG, ec, hc] at h0
        refine tm_sells hR.1 em hm hc (if_n (nI_pos h31) (h0 ?_ _ _ _ _))
        rw [e, ec, decide_eq_true ha]; rfl
      · have ha : agR g m ≠ 0 := fun e0 => hz (by rw [e0]; rfl)
        exact h1 (by rw [e, ec, decide_eq_false ha]; rfl) _
end CA
