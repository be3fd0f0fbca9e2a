/-! ===== level 2: reports, letters, sales ===== -/
def RR (rP : XRow) (rL : Int32) (rep : XRow) (reps : Int32) : Prop := ∃ k, k ≤ 3 ∧ rL = nI k ∧ reps = nI k ∧ ∀ x, x < 2 * k → rP x = rep x
theorem RR_six {R R' : XRow} {x0 x1 x2 x3 x4 x5 : Int32} (h : six R x0 x1 x2 x3 x4 x5) (h' : six R' x0 x1 x2 x3 x4 x5) : RR R 3 R' 3 := by
  obtain ⟨a0, a1, a2, a3, a4, a5⟩ := h
  obtain ⟨b0, b1, b2, b3, b4, b5⟩ := h'
  refine ⟨3, by omega, rfl, rfl, fun x hx => ?_⟩
  rcases (show x = 0 ∨ x = 1 ∨ x = 2 ∨ x = 3 ∨ x = 4 ∨ x = 5 by omega) with rfl | rfl | rfl | rfl | rfl | rfl
  · rw [a0, b0]
  · rw [a1, b1]
  · rw [a2, b2]
  · rw [a3, b3]
  · rw [a4, b4]
  · rw [a5, b5]
theorem j_report {rP rep : XRow} {rL reps p0 : Int32} {p1 : Bool} (h : RR rP rL rep reps) : J1 (wp_X8_report rP rL p0 p1) (wp_X9_report rep reps p0 p1) 0 "java/util/NoSuchElementException" := by
  obtain ⟨k, hk, rfl, rfl, he⟩ := h
  cases w : wi p0 0 (nI k - 1) with
  | false => exact Or.inr ⟨fun post postX hp => tw_wi (bb_f w hp), fun post hp => tw_in (bb_f w hp)⟩
  | true =>
    obtain ⟨i, hi, rfl⟩ := wi_m1 rfl (by omega) w
    have e0 : (2 : Int32) * nI i + 0 = nI (2 * i) := by rw [Int32.add_zero]; exact pk_mul 2 i
    have e1 : (2 : Int32) * nI i + 1 = nI (2 * i + 1) := by rw [show (2 : Int32) * nI i = nI (2 * i) from pk_mul 2 i]; exact nI_1 _
    cases p1 with
    | true =>
      refine Or.inl ⟨rep (2 * i + 1), fun post postX hp => tw_wi (bb_t w (bb_t rfl (tb_get (W := 2) (I := i) (J := 1) rfl rfl rfl (by omega) (by omega) ?_))), fun post hp => tw_in (bb_t w (bb_t rfl ?_))⟩
      · rw [show i * 2 + 1 = 2 * i + 1 by omega, he _ (by omega)]; exact hp
      · rw [e1, nI_clamp (by omega)]
        exact ⟨vp_in_nI (by omega) (by omega), hp⟩
    | false =>
      refine Or.inl ⟨rep (2 * i), fun post postX hp => tw_wi (bb_t w (bb_f rfl (tb_get (W := 2) (I := i) (J := 0) rfl rfl rfl (by omega) (by omega) ?_))), fun post hp => tw_in (bb_t w (bb_f rfl ?_))⟩
      · rw [show i * 2 + 0 = 2 * i by omega, he _ (by omega)]; exact hp
      · rw [e0, nI_clamp (by omega)]
        exact ⟨vp_in_nI (by omega) (by omega), hp⟩
/-! letters -/
theorem tc_append {tL : XRow} {tn p0 : Int32} {n : Nat} {post : Int32 × Int32 × XRow → Prop} {postX : String → Unit → Prop} (ht : tn = nI n) (hn : n ≤ 80) (h0 : n < 80 → post (nI (n + 1), nI (n + 1), upd tL n (vp_nar .char p0))) (h1 : n = 80 → postX "java/lang/IllegalStateException" ()) : wp_X8_append tL tn p0 post postX := by
  subst ht
  have e1 : nI n + 1 = nI (n + 1) := nI_1 n
  unfold wp_X8_append wp_X7_isFull
  by_cases hc : n < 80
  · refine if_y (nI_lt (b := 80) hc (by omega)) (bb_f rfl (if_n (nI_pos (by omega)) (if_n (nI_ge (a := n) (b := 80) hc (by omega)) ⟨vp_in_nI (by omega) (by omega), fun x hx => ?_⟩)))
    rw [hx, e1, nI_clamp (by omega)]
    exact h0 hc
  · exact if_n (nI_nlt (a := n) (b := 80) (by omega) (by omega)) (bb_t rfl (h1 (by omega)))
theorem tm_append {mtext : XRow} {ml p0 : Int32} {n : Nat} {post : Int32 × Int32 × Int32 × XRow → Prop} (ht : ml = nI n) (hn : n ≤ 80) (h0 : n < 80 → post (nI (n + 1), 0, nI (n + 1), upd mtext n p0)) (h1 : n = 80 → post (0, 1, nI n, mtext)) : wp_X9_append mtext ml p0 post := by
  subst ht
  have e1 : nI n + 1 = nI (n + 1) := nI_1 n
  refine pk_eq n 80 (fun hc => h1 hc) (fun hc => ⟨vp_in_nI (by omega) (by omega), fun x hx => ?_⟩)
  rw [hx, e1, nI_clamp (by omega)]
  exact h0 (by omega)
/-! sales -/
def four (R : XRow) (x0 x1 x2 x3 : Int32) : Prop := R 0 = x0 ∧ R 1 = x1 ∧ R 2 = x2 ∧ R 3 = x3
theorem RR_four {R R' : XRow} {x0 x1 x2 x3 : Int32} (h : four R x0 x1 x2 x3) (h' : four R' x0 x1 x2 x3) : RR R 2 R' 2 := by
  obtain ⟨a0, a1, a2, a3⟩ := h
  obtain ⟨b0, b1, b2, b3⟩ := h'
  refine ⟨2, by omega, rfl, rfl, fun x hx => ?_⟩
  rcases (show x = 0 ∨ x = 1 ∨ x = 2 ∨ x = 3 by omega) with rfl | rfl | rfl | rfl
  · rw [a0, b0]
  · rw [a1, b1]
  · rw [a2, b2]
  · rw [a3, b3]
theorem four_u {rep : XRow} {x0 x1 x2 x3 : Int32} : four (upd (upd (upd (upd rep 0 x0) 1 x1) 2 x2) 3 x3) x0 x1 x2 x3 := by
  refine ⟨?_, ?_, ?_, ?_⟩
  · rw [un (by omega), un (by omega), un (by omega), u_at rfl]
  · rw [un (by omega), un (by omega), u_at rfl]
  · rw [un (by omega), u_at rfl]
  · rw [u_at rfl]
theorem tc_rep2 {rP : XRow} {p1 p2 p3 p4 : Int32} {post : Int32 × XRow → Prop} (h : ∀ R, four R p1 p2 p3 p4 → post (2, R)) : wp_X5_replace rP (-1) p1 p2 p3 p4 post := by
  unfold wp_X5_replace wp_X5_fill
  refine if_y rfl ?_
  refine tb_put (W := 2) (I := 0) (J := 0) rfl rfl rfl (by omega) (by omega) (tb_put (W := 2) (I := 0) (J := 1) rfl rfl rfl (by omega) (by omega) ?_)
  refine tb_put (W := 2) (I := 1) (J := 0) rfl rfl rfl (by omega) (by omega) (tb_put (W := 2) (I := 1) (J := 1) rfl rfl rfl (by omega) (by omega) ?_)
  intro y hy
  have ey : y = 2 := by rw [hy]; rfl
  rw [ey]
  exact h _ four_u
/-- agD of a refused sale does not look at the old detail -/
theorem agD_md {g : XRow} {i : Nat} (h : agR g i ≠ 0) (m m' : Int32) : agD g i m = agD g i m' := by
  unfold agD
  generalize agR g i = a at h ⊢
  match a, h with
  | 0, h => exact absurd rfl h
  | 1, _ => rfl
  | 2, _ => rfl
  | 3, _ => rfl
  | _ + 4, _ => rfl
section SL
variable {b b0 : Nat} {d : PD} {g : XRow}
theorem tc_sell {hn hc p0 rL pasts : Int32} {hK : Nat → PD} {rP past : XRow} {post : (Int32 × (Nat → PD) × XRow × XRow × Int32 × Int32 × Int32 × XRow) → Prop} {postX : String → (Int32 × XRow) → Prop} (hR : Rel b d g) (hH : HR b0 hn hc hK past pasts) (h0 : wi p0 0 (g 2 - 1) = false → postX "java/lang/IndexOutOfBoundsException" (rL, rP)) (h1 : ∀ i, p0 = nI i → i < cn (g 2) → agR g i ≠ 0 → ∀ R, four R p0 (g (137 + 9 * i)) (nI (agR g i)) (agD g i 0) → postX "java/lang/UnsupportedOperationException" (2, R)) (h2 : ∀ i c N C, p0 = nI i → i < cn (g 2) → agR g i = 0 → bfN g i (cn (g 3)) = some c → Rel b (d.1, d.2.1, d.2.2.1, N, d.2.2.2.2.1, d.2.2.2.2.2.1, C, d.2.2.2.2.2.2.2) (oSell g i c) → post (nI c, hKK hn hK d, N, C, hnK hn, hcK hc, rL, rP)) : wp_X8_sell d hn hc hK rP rL p0 post postX := by
  refine tc_needB hR ?_
  cases w : wi p0 0 (g 2 - 1) with
  | false => exact bb_f rfl (h0 w)
  | true =>
    obtain ⟨i, hi, h60, em⟩ := wi_B hR w
    have h4 := agR_le g i
    refine bb_t rfl (tc_refusal hR em hi ⟨fun hz => ?_, fun hz => ?_⟩)
    · have ha : agR g i = 0 := by
        by_cases e : agR g i = 0
        · exact e
        · exact absurd hz (nI_ne0 (by omega) (by omega))
      obtain ⟨h9, c, hc9⟩ := agR_0 ha
      exact bb_f rfl (tc_keep hH (tc_hand hR em hi h9 hc9 (h2 i c _ _ em hi ha hc9 (Rel_sell hR hi h9 hc9))))
    · have ne : agR g i ≠ 0 := fun e => hz (by rw [e]; rfl)
      have n1 := Rel_N hR i hi
      refine tb_get (W := 12) (I := i) (J := 5) rfl em rfl (by omega) (by omega) (tc_detail (md := 0) hR em hi rfl ne (tc_rep2 (fun R hs => bb_t rfl (h1 i em hi ne R ?_))))
      have e5 : d.2.2.2.1 (i * 12 + 5) = g (137 + 9 * i) := n1.2.1
      rw [e5] at hs
      exact hs
theorem tm_sell {hn hc p0 pasts reps md : Int32} {hK : Nat → PD} {past rep : XRow} {post : (Int32 × Int32 × Int32 × Int32 × Int32 × XRow × XRow × XRow) → Prop} (hR : Rel b d g) (hH : HR b0 hn hc hK past pasts) (h0 : wi p0 0 (g 2 - 1) = false → post (0, pasts, reps, 1, md, g, past, rep)) (h1 : ∀ i, p0 = nI i → i < cn (g 2) → agR g i ≠ 0 → ∀ R md', four R p0 (g (137 + 9 * i)) (nI (agR g i)) (agD g i 0) → post (0, pasts, 2, 2, md', g, past, R)) (h2 : ∀ i c md', p0 = nI i → i < cn (g 2) → agR g i = 0 → bfN g i (cn (g 3)) = some c → post (nI c, mnK pasts, reps, 0, md', oSell g i c, mpK past pasts g, rep)) : wp_X9_sell g past rep pasts reps md p0 post := by
  refine tm_isB ?_
  cases w : wi p0 0 (g 2 - 1) with
  | false => exact bb_f rfl (h0 w)
  | true =>
    obtain ⟨i, hi, h60, em⟩ := wi_B hR w
    have h4 := agR_le g i
    refine bb_t rfl (tm_against (i := i) em (Inv_C hR.1) ((Inv_B hR.1).2 i hi) (by omega) ?_)
    refine pk_le (agR g i) 0 (fun hz => ?_) (fun hz => ?_)
    · have ha : agR g i = 0 := by omega
      obtain ⟨h9, c, hc9⟩ := agR_0 ha
      exact tm_changes hH (tm_sells hR.1 em hi hc9 (h2 i c _ em hi ha hc9))
    · have ne : agR g i ≠ 0 := by omega
      refine tm_bAt (m := i) (w := 5) em rfl ⟨v672 (by omega), ?_⟩
      rw [tn_nI (by omega), show 132 + 9 * i + 5 = 137 + 9 * i by omega]
      refine tm_rep (I := 0) rfl (by omega) (tm_rep (I := 1) rfl (by omega) (h1 i em hi ne _ _ ?_))
      rw [agD_md ne 0 md]
      exact four_u
end SL
