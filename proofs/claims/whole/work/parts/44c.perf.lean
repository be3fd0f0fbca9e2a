/-! ===== level 2: a text carried out, command by command ===== -/
def pfG : List (Nat → Int32) → Nat → XRow → Option (Nat × (Nat → Int32)) × XRow | [], _, g => (none, g) | r :: L, q, g => bif stB g r then pfG L (q + 1) (stG g r) else (some (q, r), g)
/-- the report that a refused command leaves, the class -/
def RPc (q : Nat) (r : Nat → Int32) (g : XRow) (rL : Int32) (rP : XRow) (rL' : Int32) (rP' : XRow) : Prop := (¬ (r 0 = 115 ∧ wi (r 1) 0 (g 2 - 1) = true) ∧ rL' = rL ∧ rP' = rP) ∨ (r 0 = 115 ∧ wi (r 1) 0 (g 2 - 1) = true ∧ rL' = 3 ∧ ∃ md, six rP' 9 (nI q) (r 1) (g (137 + 9 * cn (r 1))) (nI (agR g (cn (r 1)))) (agD g (cn (r 1)) md))
theorem pfG_t {L : List (Nat → Int32)} {r : Nat → Int32} {q : Nat} {g : XRow} (h : stB g r = true) : pfG (r :: L) q g = pfG L (q + 1) (stG g r) := by
  show (bif stB g r then _ else _) = _
  rw [h]; rfl
theorem pfG_f {L : List (Nat → Int32)} {r : Nat → Int32} {q : Nat} {g : XRow} (h : stB g r = false) : pfG (r :: L) q g = (some (q, r), g) := by
  show (bif stB g r then _ else _) = _
  rw [h]; rfl
theorem tc_ploop {dt : PD} {u1 : Bool × Int32 × Int32 × XRow} {u3 : Int32 × Int32 × Int32 × XRow × XRow × XRow × Int32 × XRow × Int32 × XRow} {k62 k84 : Int32 → Int32 → Int32 → XRow → XRow → Int32 → XRow → Int32 → XRow → XRow → Int32 → XRow → Prop} {v14 : Int32} {v15 : XRow} : ∀ (L : List (Nat → Int32)) (q b : Nat) (g : XRow) (z pc : Int32) (M P : XRow) (bc : Int32) (N : XRow) (cc : Int32) (C R : XRow), Rel b (u3.2.2.2.1, M, P, N, bc, dt.2.2.2.2.2.1, C, cc, R, u3.1, z, pc) g → TK u1.2.2.2 q L → (∀ r ∈ L, rOK r) → u1.2.2.1 = nI (q + L.length) → q + L.length ≤ 27 → b + L.length ≤ 600 → ((pfG L q g).1 = none → ∀ i z pc M P bc N cc C R, Rel (b + L.length) (u3.2.2.2.1, M, P, N, bc, dt.2.2.2.2.2.1, C, cc, R, u3.1, z, pc) (pfG L q g).2 → k84 i z pc M P bc N cc C R v14 v15) → (∀ q' r', (pfG L q g).1 = some (q', r') → ∀ i z pc M P bc N cc C R rL' rP', RPc q' r' (pfG L q g).2 v14 v15 rL' rP' → k62 i z pc M P bc N cc C R rL' rP') → wp_X8_perform_L43 dt u1 u3 k62 k84 (L.length + 1) (nI q) z pc M P bc N cc C R v14 v15
  | [], q, b, g, z, pc, M, P, bc, N, cc, C, R, hR, hT, hr, hu, h27, hb, H0, H1 => by
    refine if_y ?_ (H0 rfl _ _ _ _ _ _ _ _ _ _ hR)
    rw [hu]
    exact nI_le (Nat.le_refl _) (by omega)
  | r :: L, q, b, g, z, pc, M, P, bc, N, cc, C, R, hR, hT, hr, hu, h27, hb, H0, H1 => by
    rw [List.length_cons] at hu h27 hb H0
    have e1 : nI q + 1 = nI (q + 1) := nI_1 q
    have hr1 := hr r (List.mem_cons_self ..)
    refine if_n ?_ (tc_isRef (b := b) (g := g) (r := r) hR hr1 hT.1 (by omega) (fun hs => bb_f rfl ?_) (fun hs hn => bb_t rfl ?_) (fun hs h115 hw R' md h6 => bb_t rfl ?_))
    · rw [hu]; exact nI_ge (a := q) (b := q + (L.length + 1)) (by omega) (by omega)
    · refine tc_carry (b := b) (g := g) (r := r) (by omega) hR hr1 hT.1 (by omega) hs (fun v hv x hx => ?_)
      rw [hx, e1]
      rw [pfG_t hs] at H0 H1
      exact tc_ploop L (q + 1) (b + 1) (stG g r) _ _ _ _ _ _ _ _ _ hv hT.2 (fun r' h' => hr r' (List.mem_cons_of_mem _ h')) (by rw [hu, show q + (L.length + 1) = q + 1 + L.length by omega]) (by omega) (by omega) (by rw [show b + 1 + L.length = b + (L.length + 1) by omega]; exact H0) H1
    · rw [pfG_f hs] at H1
      exact H1 q r rfl _ _ _ _ _ _ _ _ _ _ _ _ (Or.inl ⟨hn, rfl, rfl⟩)
    · rw [pfG_f hs] at H1
      exact H1 q r rfl _ _ _ _ _ _ _ _ _ _ _ _ (Or.inr ⟨h115, hw, rfl, md, h6⟩)
/-- a command keeps the relation -/
theorem stG_Rel {b : Nat} {d : PD} {g : XRow} {r : Nat → Int32} (hb : b ≤ 600) (hR : Rel b d g) (hr : rOK r) (hs : stB g r = true) : ∃ d', Rel (b + 1) d' (stG g r) := by
  by_cases k1 : r 0 = 99
  · obtain ⟨e, eG⟩ := stB_99 (g := g) k1
    have hs2 := e.symm.trans hs
    unfold cB at hs2
    rw [Bool.and_eq_true, Bool.and_eq_true, Bool.and_eq_true, Bool.and_eq_true] at hs2
    obtain ⟨⟨⟨⟨w0, w1⟩, w2⟩, w3⟩, w4⟩ := hs2
    have h3 := of_decide_eq_true w4
    rw [eG]
    exact ⟨_, Rel_up (Rel_con hR h3 (wi_ok (a := 0) (b := 4) rfl rfl (by omega) (by omega) w0) (wi_ok (a := 0) (b := 1000) rfl rfl (by omega) (by omega) w1) (wi_ok (a := 1) (b := 9999) rfl rfl (by omega) (by omega) w2) (wi_ok (a := 1) (b := 99) rfl rfl (by omega) (by omega) w3)) (Nat.le_succ _)⟩
  · by_cases k2 : r 0 = 102
    · obtain ⟨e, eG⟩ := stB_102 (g := g) k2
      have hs2 := e.symm.trans hs
      unfold fB at hs2
      rw [Bool.and_eq_true, Bool.and_eq_true] at hs2
      obtain ⟨⟨w0, w1⟩, w2⟩ := hs2
      obtain ⟨m, _, hm, em⟩ := wi_ok (a := 0) (b := 4) rfl rfl (by omega) (by omega) w0
      obtain ⟨n, _, hn, en⟩ := wi_ok (a := 1) (b := 999) rfl rfl (by omega) (by omega) w1
      rw [eG, em, en, cn_nI (by omega)]
      exact ⟨_, Rel_feed hb hR (by omega) hn⟩
    · by_cases k3 : r 0 = 114
      · obtain ⟨e, eG⟩ := stB_114 (g := g) k3
        rw [eG]
        obtain ⟨d', hd⟩ := rnG_Rel hb (cn (r 1)) 0 g d hR
        exact ⟨d', Rel_up hd (Nat.le_succ _)⟩
      · obtain ⟨e, eG⟩ := stB_115 (g := g) ⟨k1, k2, k3⟩
        have hs2 := e.symm.trans hs
        unfold sB at hs2
        rw [Bool.and_eq_true] at hs2
        obtain ⟨m, hm, h60, em⟩ := wi_B hR hs2.1
        have ec : cn (r 1) = m := by rw [em]; exact cn_nI (by omega)
        have ha := of_decide_eq_true hs2.2
        rw [ec] at ha
        obtain ⟨h9, c, hc⟩ := agR_0 ha
        rw [eG, ec, hc]
        exact ⟨_, Rel_up (Rel_sell hR hm h9 hc) (Nat.le_succ _)⟩
theorem tm_ploop {u1 : Bool × Int32 × Int32 × Int32 × XRow} {k58 k157 : Int32 → Int32 → XRow → XRow → XRow → XRow → Prop} : ∀ (L : List (Nat → Int32)) (q b : Nat) (g : XRow) (d : PD) (md : Int32) (T p c : XRow), Rel b d g → TK u1.2.2.2.2 q L → (∀ r ∈ L, rOK r) → u1.2.2.2.1 = nI (q + L.length) → q + L.length ≤ 27 → b + L.length ≤ 600 → ((pfG L q g).1 = none → ∀ i md' T p c, k157 i md' (pfG L q g).2 T p c) → (∀ q' r', (pfG L q g).1 = some (q', r') → (∀ j, j < arN (r' 0) → u1.2.2.2.2 (q' * 5 + j) = r' j) → q' < 27 → (∃ b' d', Rel b' d' (pfG L q g).2) → ∀ md' T p c, k58 (nI q') md' (pfG L q g).2 T p c) → wp_X9_perform_L42 u1 k58 k157 (L.length + 1) (nI q) md g T p c
  | [], q, b, g, d, md, T, p, c, hR, hT, hr, hu, h27, hb, H0, H1 => by
    refine if_y ?_ (H0 rfl _ _ _ _ _)
    rw [hu]
    exact nI_le (Nat.le_refl _) (by omega)
  | r :: L, q, b, g, d, md, T, p, c, hR, hT, hr, hu, h27, hb, H0, H1 => by
    rw [List.length_cons] at hu h27 hb
    have e1 : nI q + 1 = nI (q + 1) := nI_1 q
    have hr1 := hr r (List.mem_cons_self ..)
    refine if_n ?_ (tm_step (b := b) (d := d) (r := r) (by omega) hR hr1 hT.1 (by omega) (fun hs md' T p c => bb_t rfl (fun x hx => ?_)) (fun hs md' => bb_f rfl ?_))
    · rw [hu]; exact nI_ge (a := q) (b := q + (L.length + 1)) (by omega) (by omega)
    · rw [hx, e1]
      rw [pfG_t hs] at H0 H1
      obtain ⟨d', hd'⟩ := stG_Rel (by omega) hR hr1 hs
      exact tm_ploop L (q + 1) (b + 1) (stG g r) d' md' T p c hd' hT.2 (fun r' h' => hr r' (List.mem_cons_of_mem _ h')) (by rw [hu, show q + (L.length + 1) = q + 1 + L.length by omega]) (by omega) (by omega) H0 H1
    · rw [pfG_f hs] at H1
      exact H1 q r rfl hT.1 (by omega) ⟨b, d, hR⟩ _ _ _ _
