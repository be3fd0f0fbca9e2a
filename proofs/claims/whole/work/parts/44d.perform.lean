/-! ===== level 2: perform ===== -/
theorem tq_changes12 {g past : XRow} {pasts : Int32} {h : Nat} {post : Int32 × XRow → Prop} (hp : pasts = nI h) (hh : h ≤ 8) (hq : post (mnK pasts, mpK past pasts g)) : wp_X9_changes_o12 past g pasts post := by
  subst hp
  have ec : cn (nI h) = h := cn_nI (by omega)
  unfold mnK mpK at hq
  rw [ec] at hq
  refine pk_eq h 8 (fun h8 => ?_) (fun h8 => ?_)
  · rw [if_pos h8] at hq
    subst h8
    refine loop_0 (fun n i s => wp_X9_changes_o12_L11 (fun (_ : Int32) (v7 : XRow) => ∀ x8 : Int32, x8 = nI 8 - 1 → (wp_X9_copies 672 g 5376 v7 0 (672 * x8) (fun u9 : XRow => ∀ x10 : Int32, x10 = x8 + 1 → (post (x10, u9))))) n (nI i) s) (fun i s => s = fun j => if j < i then past (j + 672) else past j) 4704 past (by funext j; rw [if_neg (by omega)]) ?_ ?_
    · intro n s hs
      subst hs
      refine ⟨fun _ x hx => ?_, fun h => absurd (nI_le (a := 4704) (b := 4704) (by omega) (by omega)) h⟩
      have e1 : nI 8 - 1 = nI 7 := nI_pred 7
      have e2 : 672 * nI 7 = nI 4704 := pk_mul 672 7
      have e3 : nI 7 + 1 = nI 8 := nI_1 7
      rw [hx, e1, e2]
      refine tq_copies (A := 0) rfl rfl (by omega) (by omega) (by omega) (by omega) ?_
      intro y hy
      rw [hy, e3]
      exact hq
    · intro n i s hi hs hk
      subst hs
      have ea : nI i + 672 = nI (i + 672) := nI_add i 672
      refine ⟨fun h => absurd h (nI_ge (a := i) (b := 4704) (by omega) (by omega)), fun _ => ⟨by rw [ea]; exact vp_in_nI (by omega) (by omega), vp_in_nI (by omega) (by omega), fun x hx => ?_⟩⟩
      have e1 : nI i + 1 = nI (i + 1) := nI_1 i
      rw [hx, e1, ea, nI_clamp (by omega), nI_clamp (by omega)]
      refine hk _ ?_
      funext j
      by_cases hj : j = i
      · subst hj
        rw [pk_us]
        show (if j + 672 < j then past (j + 672 + 672) else past (j + 672)) = (if j < j + 1 then past (j + 672) else past j)
        rw [if_neg (by omega), if_pos (by omega)]
      · rw [pk_un hj]
        by_cases hj2 : j < i
        · rw [if_pos hj2, if_pos (by omega)]
        · rw [if_neg hj2, if_neg (by omega)]
  · rw [if_neg h8] at hq
    have e2 : 672 * nI h = nI (672 * h) := pk_mul 672 h
    have e3 : nI h + 1 = nI (h + 1) := nI_1 h
    rw [e2]
    refine tq_copies (A := 0) rfl rfl (by omega) (by omega) (by omega) (by omega) ?_
    intro y hy
    rw [hy, e3]
    rw [show min (h + 1) 8 = h + 1 by omega] at hq
    exact hq

theorem tm_rep {rep : XRow} {i a c : Int32} {I : Nat} {post : Int32 × XRow → Prop} (hi : i = nI I) (hI : I < 3) (h : post (nI (I + 1), upd (upd rep (2 * I) a) (2 * I + 1) c)) : wp_X9_reports rep i a c post := by
  subst hi
  have e0 : (2 : Int32) * nI I = nI (2 * I) := pk_mul 2 I
  have e1 : nI (2 * I) + 1 = nI (2 * I + 1) := nI_1 _
  have e2 : nI I + 1 = nI (I + 1) := nI_1 _
  unfold wp_X9_reports
  rw [e0, e1]
  refine ⟨vp_in_nI (by omega) (by omega), vp_in_nI (by omega) (by omega), fun x hx => ?_⟩
  rw [hx, e2, nI_clamp (by omega), nI_clamp (by omega)]
  exact h
theorem six_u {rep : XRow} {x0 x1 x2 x3 x4 x5 : Int32} : six (upd (upd (upd (upd (upd (upd rep 0 x0) 1 x1) 2 x2) 3 x3) 4 x4) 5 x5) x0 x1 x2 x3 x4 x5 := by
  refine ⟨?_, ?_, ?_, ?_, ?_, ?_⟩
  · rw [un (by omega), un (by omega), un (by omega), un (by omega), un (by omega), u_at rfl]
  · rw [un (by omega), un (by omega), un (by omega), un (by omega), u_at rfl]
  · rw [un (by omega), un (by omega), un (by omega), u_at rfl]
  · rw [un (by omega), un (by omega), u_at rfl]
  · rw [un (by omega), u_at rfl]
  · rw [u_at rfl]
theorem pfG_some : ∀ (L : List (Nat → Int32)) (q : Nat) (g : XRow) (q' : Nat) (r' : Nat → Int32), (pfG L q g).1 = some (q', r') → stB (pfG L q g).2 r' = false
  | [], q, g, q', r', h => by cases h
  | r :: L, q, g, q', r', h => by
    cases hs : stB g r with
    | true => rw [pfG_t hs] at h ⊢; exact pfG_some L (q + 1) (stG g r) q' r' h
    | false =>
      rw [pfG_f hs] at h ⊢
      replace h : some (q, r) = some (q', r') := h
      obtain ⟨rfl, rfl⟩ := Prod.mk.inj (Option.some.inj h)
      exact hs
section PX
variable {b b0 : Nat} {dn dt : PD} {g : XRow}
theorem tc_perform {hn hc : Int32} {hK : Nat → PD} {rP tL tC past : XRow} {rL tn tc pasts : Int32} {n : Nat} {post : (Int32 × (Nat → PD) × Int32 × Int32 × Int32 × XRow × XRow × XRow × Int32 × XRow × Int32 × XRow × Int32 × Int32 × Int32 × XRow × XRow × XRow × Int32 × XRow × Int32 × XRow × XRow × Int32 × Int32 × Int32 × XRow × Int32 × Int32 × Int32 × XRow) → Prop} {postX : String → (Int32 × Int32 × Int32 × XRow × XRow × XRow × Int32 × XRow × Int32 × XRow × XRow × Int32 × XRow × Int32 × Int32 × Int32 × XRow) → Prop} (hb : b + n ≤ 600) (hR : Rel b dn g) (hH : HR b0 hn hc hK past pasts) (htn : tn = nI n) (h80 : n ≤ 80) (h0 : psF tL n 28 0 = none → ∀ (cc0 : Int32) (T0 : XRow), post ((-100) - nI (psS tL n 28 0), hK, dn.2.2.2.2.2.2.2.2.2.1, dn.2.2.2.2.2.2.2.2.2.2.1, dn.2.2.2.2.2.2.2.2.2.2.2, dn.1, dn.2.1, dn.2.2.1, dn.2.2.2.2.1, dn.2.2.2.1, dn.2.2.2.2.2.2.2.1, dn.2.2.2.2.2.2.1, dt.2.2.2.2.2.2.2.2.2.1, dt.2.2.2.2.2.2.2.2.2.2.1, dt.2.2.2.2.2.2.2.2.2.2.2, dt.1, dt.2.1, dt.2.2.1, dt.2.2.2.2.1, dt.2.2.2.1, dt.2.2.2.2.2.2.2.1, dt.2.2.2.2.2.2.1, dt.2.2.2.2.2.2.2.2.1, hn, hc, rL, rP, 0, nI (psS tL n 28 0), cc0, T0)) (h1 : ∀ L, psF tL n 28 0 = some L → (pfG L 0 g).1 = none → ∀ (X : PD) (w0 : Int32) (w1 : Int32) (w2 : Int32) (w3 : XRow) (w4 : XRow) (w5 : XRow) (w6 : Int32) (w7 : XRow) (w8 : Int32) (w9 : XRow) (w10 : XRow) (w11 : Int32) (w12 : XRow), Rel (b + L.length) X (pfG L 0 g).2 → post (nI L.length, hKK hn hK dn, X.2.2.2.2.2.2.2.2.2.1, X.2.2.2.2.2.2.2.2.2.2.1, X.2.2.2.2.2.2.2.2.2.2.2, (cpPD dn X).1, (cpPD dn X).2.1, (cpPD dn X).2.2.1, X.2.2.2.2.1, (cpPD dn X).2.2.2.1, X.2.2.2.2.2.2.2.1, (cpPD dn X).2.2.2.2.2.2.1, w0, w1, w2, w3, w4, w5, w6, w7, w8, w9, w10, hnK hn, hcK hc, rL, rP, 0, w11, nI L.length, w12)) (h2 : ∀ L q r, psF tL n 28 0 = some L → (pfG L 0 g).1 = some (q, r) → ∀ (y0 y1 y2 : Int32) (y3 y4 y5 : XRow) (y6 : Int32) (y7 : XRow) (y8 : Int32) (y9 y10 : XRow) (rL' : Int32) (rP' : XRow) (s c : Int32) (T : XRow), RPc q r (pfG L 0 g).2 rL rP rL' rP' → postX "java/lang/UnsupportedOperationException" (y0, y1, y2, y3, y4, y5, y6, y7, y8, y9, y10, rL', rP', 0, s, c, T)) : wp_X8_perform dn dt hn hc hK rP rL tL tC tn tc post postX := by
  subst htn
  unfold wp_X8_perform wp_X7_empty
  refine tc_parse h80 (fun L hL T hT s => bb_t rfl (e_pcopy ⟨L.length + 1, ?_⟩)) (fun hN s c T hs => bb_f rfl ?_)
  · obtain ⟨l1, l2, l3⟩ := psF_ok 28 0 L (by omega) hL
    have hR' : Rel b (cpPD dt dn) g := Rel_copy hR
    refine tc_ploop L 0 b g _ _ _ _ _ _ _ _ _ hR' hT l3 (by rw [Nat.zero_add]) (by omega) (by omega) (fun hN i z pc M P bc N cc C R hr => ?_) (fun q r hq i z pc M P bc N cc C R rL' rP' hp => h2 L q r hL hq _ _ _ _ _ _ _ _ _ _ _ _ _ _ _ _ hp)
    exact tc_keep hH (e_pcopy (h1 L hL hN _ _ _ _ _ _ _ _ _ _ _ _ _ _ hr))
  · subst hs
    exact h0 hN _ _
/-- what the reference reports of a refused command -/
def RPm (q : Nat) (r : Nat → Int32) (g : XRow) (n0 : Int32) (rep : XRow) (n1 : Int32) (rep' : XRow) : Prop := (¬ (r 0 = 115 ∧ wi (r 1) 0 (g 2 - 1) = true) ∧ n1 = n0 ∧ rep' = rep) ∨ (r 0 = 115 ∧ wi (r 1) 0 (g 2 - 1) = true ∧ n1 = 3 ∧ ∃ md, six rep' 9 (nI q) (r 1) (g (137 + 9 * cn (r 1))) (nI (agR g (cn (r 1)))) (agD g (cn (r 1)) md))
theorem tm_perform {hn hc : Int32} {hK : Nat → PD} {tL mtrial mpast mreport mpart mcome mtext mtold mahead : XRow} {mpasts mreports mdetail mlength mnumber : Int32} {n : Nat} {post : (Int32 × Int32 × Int32 × Int32 × Int32 × Int32 × Int32 × Int32 × Int32 × XRow × XRow × XRow × XRow × XRow × XRow × XRow × XRow) → Prop} (hb : b + n ≤ 600) (hR : Rel b dn g) (hH : HR b0 hn hc hK mpast mpasts) (hl : mlength = nI n) (h80 : n ≤ 80) (hu : ∀ j, j < n → mtext j = tL j) (h0 : psF tL n 28 0 = none → ∀ m c T, post ((-100) - nI (psS tL n 28 0), mpasts, mreports, 0, mdetail, 0, nI (psS tL n 28 0), m, c, g, mtrial, mpast, mreport, mpart, mcome, T, mahead)) (h1 : ∀ L, psF tL n 28 0 = some L → (pfG L 0 g).1 = none → ∀ md s m T p c told ahead, (∀ x, x < 672 → ahead x = g x) → post (nI L.length, mnK mpasts, mreports, 0, md, 0, s, m, nI L.length, (pfG L 0 g).2, T, mpK mpast mpasts ahead, mreport, p, c, told, ahead)) (h2 : ∀ L q r, psF tL n 28 0 = some L → (pfG L 0 g).1 = some (q, r) → ∀ n1 rep' md s m c g' T p cm told ahead, RPm q r (pfG L 0 g).2 mreports mreport n1 rep' → (∀ x, x < 672 → g' x = g x) → post (0, mpasts, n1, 1, md, 0, s, m, c, g', T, mpast, rep', p, cm, told, ahead)) : wp_X9_perform g mtrial mpast mreport mpart mcome mtext mtold mahead mpasts mreports mdetail mlength mnumber post := by
  subst hl
  unfold wp_X9_perform
  refine tm_isText hu h80 (fun L hL T hT s m' => bb_t rfl (tq_copies (A := 0) (C := 0) rfl rfl (by omega) (by omega) (by omega) (by omega) ⟨L.length + 1, ?_⟩)) (fun hN s m' c T hs => bb_f rfl ?_)
  · obtain ⟨l1, l2, l3⟩ := psF_ok 28 0 L (by omega) hL
    have ha : ∀ x, x < 672 → va_cpy g mahead 0 0 672 x = g x := fun x hx => cp_row hx
    refine tm_ploop L 0 b g dn mdetail mtrial mpart mcome hR hT l3 (by rw [Nat.zero_add]) (by omega) (by omega) (fun hN i md' T2 p c => ?_) (fun q r hq hT2 h27 hRe md' T2 p c => ?_)
    · obtain ⟨j, h, j1, j2, j3, j4, j5, j6⟩ := hH
      exact tq_changes12 j5 j2 (h1 L hL hN _ _ _ _ _ _ _ _ ha)
    · obtain ⟨b', d', hR'⟩ := hRe
      have a2 := arN_2 (r 0)
      have c0 : (5 : Int32) * nI q = nI (q * 5) := by rw [show (5 : Int32) = nI 5 from rfl, pk_mul, Nat.mul_comm]
      have c1 : nI (q * 5) + 1 = nI (q * 5 + 1) := nI_1 _
      have t0 : T (q * 5) = r 0 := hT2 0 (by omega)
      have t1 : T (q * 5 + 1) = r 1 := hT2 1 (by omega)
      rw [c0, c1, nI_clamp (by omega), nI_clamp (by omega)]
      refine ⟨vp_in_nI (by omega) (by omega), fun x hx => ⟨vp_in_nI (by omega) (by omega), ?_⟩⟩
      have ex : x = r 1 := hx.trans t1
      subst ex
      show (T (q * 5) = 115 → _) ∧ (¬ T (q * 5) = 115 → _)
      rw [t0]
      have back : ∀ (v : XRow), ∀ x, x < 672 → va_cpy (va_cpy g mahead 0 0 672) v 0 0 672 x = g x := fun v x hx => by rw [cp_row hx, ha x hx]
      refine ⟨fun k => ?_, fun k => ?_⟩
      · refine ⟨v672 (n := 2) (by omega), tw_in ?_⟩
        generalize hG : (pfG L 0 g).2 = G at hR' ⊢
        show (wi (r 1) 0 (G 2 - 1) = true → _) ∧ (wi (r 1) 0 (G 2 - 1) = false → _)
        cases w : wi (r 1) 0 (G 2 - 1) with
        | false =>
          refine bb_f rfl (tq_copies (A := 0) (C := 0) rfl rfl (by omega) (by omega) (by omega) (by omega) ?_)
          exact h2 L q r hL hq _ _ _ _ _ _ _ _ _ _ _ _ (Or.inl ⟨fun hh => by rw [hG, w] at hh; exact Bool.noConfusion hh.2, rfl, rfl⟩) (back _)
        | true =>
          obtain ⟨i, hi, h60, em⟩ := wi_B hR' w
          have ec : cn (r 1) = i := by rw [em]; exact cn_nI (by omega)
          refine bb_t rfl (tm_against (i := i) em (Inv_C hR'.1) ((Inv_B hR'.1).2 i hi) (by omega) ?_)
          refine tm_rep (I := 0) rfl (by omega) (tm_bAt (m := i) (w := 5) em rfl ⟨v672 (by omega), ?_⟩)
          rw [tn_nI (by omega), show 132 + 9 * i + 5 = 137 + 9 * i by omega]
          refine tm_rep (I := 1) rfl (by omega) (tm_rep (I := 2) rfl (by omega) (tq_copies (A := 0) (C := 0) rfl rfl (by omega) (by omega) (by omega) (by omega) ?_))
          refine h2 L q r hL hq _ _ _ _ _ _ _ _ _ _ _ _ (Or.inr ⟨k, by rw [hG]; exact w, rfl, md', ?_⟩) (back _)
          rw [hG, ec]
          exact six_u
      · refine tq_copies (A := 0) (C := 0) rfl rfl (by omega) (by omega) (by omega) (by omega) ?_
        exact h2 L q r hL hq _ _ _ _ _ _ _ _ _ _ _ _ (Or.inl ⟨fun hh => k hh.1, rfl, rfl⟩) (back _)
  · subst hs
    exact h0 hN _ _ _
end PX
