section LD
variable {c I L : Nat} {xs : Nat → Int32} {sv : Int32} {dn : PD} {dt : PD} {ds : PD} {hn : Int32} {hc : Int32} {hK : Nat → PD} {rP : XRow} {rL : Int32} {tL : XRow} {tC : XRow} {tn : Int32} {tp : Int32} {tc : Int32} {mg : XRow} {mkept : XRow} {mspare : XRow} {mtrial : XRow} {mpast : XRow} {mreport : XRow} {mpart : XRow} {mcome : XRow} {morder : XRow} {mtext : XRow} {mtold : XRow} {mahead : XRow} {mhasKept : Int32} {mpasts : Int32} {mreports : Int32} {mthrown : Int32} {mordering : Int32} {mdetail : Int32} {mlength : Int32} {mspot : Int32} {mnumber : Int32} {mtolds : Int32} {vo : Nat → Int64} {vd : Nat → UInt64} {i : Int32} {k : KT}
theorem t_law_10 (h : LwR c sv dn ds hn hc hK rP rL tL tn mg mkept mpast mreport mtext mhasKept mpasts mreports mlength) (hc5 : c < 512) (hi : i = nI I) (hI : I + 6 ≤ L) (hL : L < 2 ^ 31) (hk : KO (c + 1) k) : wp_law_10 L xs sv dn dt ds hn hc hK rP rL tL tC tn tp tc mg mkept mspare mtrial mpast mreport mpart mcome morder mtext mtold mahead mhasKept mpasts mreports mthrown mordering mdetail mlength mspot mnumber mtolds vo vd i k := by
  obtain ⟨b, n, hbn, hR, hS, hH, hRR, hT⟩ := h
  have hR1 := Rel_up hR (Nat.le_succ b)
  unfold wp_law_10 wp_L_isSettled
  rcases j_settled (dt := dt) (spare := mspare) (trial := mtrial) (part := mpart) (come := mcome) (by omega) hR with ⟨hc1, hm1⟩ | ⟨v, hc1, hm1⟩
  · exact hc1 _ _ ⟨rfl, hm1 _ (finE (by first | exact ne1_0 | exact ne2_0 | exact ne3_0) (ko hk (RL_st hbn hR1 hS hH hRR hT)))⟩
  · cases v with
    | true => exact hc1 _ _ (fun y0 y1 y2 y3 y4 y5 y6 y7 y8 y9 y10 => bb_t rfl ⟨vpz, hm1 _ (fun _ _ _ _ _ he => finT (vo := vo) (ko hk (RL_st hbn (Rel_eq he hR1) hS hH hRR hT)))⟩)
    | false => exact hc1 _ _ (fun y0 y1 y2 y3 y4 y5 y6 y7 y8 y9 y10 => bb_f rfl ⟨vpz, hm1 _ (fun _ _ _ _ _ he => finF (vo := vo) (ko hk (RL_st hbn (Rel_eq he hR1) hS hH hRR hT)))⟩)
theorem t_law_11 (h : LwR c sv dn ds hn hc hK rP rL tL tn mg mkept mpast mreport mtext mhasKept mpasts mreports mlength) (hc5 : c < 512) (hi : i = nI I) (hI : I + 6 ≤ L) (hL : L < 2 ^ 31) (hk : KO (c + 1) k) : wp_law_11 L xs sv dn dt ds hn hc hK rP rL tL tC tn tp tc mg mkept mspare mtrial mpast mreport mpart mcome morder mtext mtold mahead mhasKept mpasts mreports mthrown mordering mdetail mlength mspot mnumber mtolds vo vd i k := by
  obtain ⟨b, n, hbn, hR, hS, hH, hRR, hT⟩ := h
  have hR1 := Rel_up hR (Nat.le_succ b)
  unfold wp_law_11 wp_L_settlesAfter
  rcases j_settles (dt := dt) (spare := mspare) (trial := mtrial) (part := mpart) (come := mcome) (by omega) hR with ⟨hc1, hm1⟩ | ⟨v, hc1, hm1⟩ | ⟨hc1, hm1⟩
  · exact hc1 _ _ (fun y0 y1 y2 y3 y4 y5 y6 y7 y8 y9 y10 => Or.inl ⟨rfl, hm1 _ (finE (by first | exact ne1_0 | exact ne2_0 | exact ne3_0) (ko hk (RL_st hbn hR1 hS hH hRR hT)))⟩)
  · exact hc1 _ _ (fun y0 y1 y2 y3 y4 y5 y6 y7 y8 y9 y10 => ⟨vpz, hm1 _ (fun _ _ _ _ _ he => fin0 (vo := vo) (ko hk (RL_st hbn (Rel_eq he hR1) hS hH hRR hT)))⟩)
  · exact hc1 _ _ (fun y0 y1 y2 y3 y4 y5 y6 y7 y8 y9 y10 => Or.inr ⟨rfl, hm1 _ (fun _ _ _ _ _ he => finE (by first | exact ne1_0 | exact ne2_0 | exact ne3_0) (ko hk (RL_st hbn (Rel_eq he hR1) hS hH hRR hT)))⟩)
theorem t_law_18 (h : LwR c sv dn ds hn hc hK rP rL tL tn mg mkept mpast mreport mtext mhasKept mpasts mreports mlength) (hc5 : c < 512) (hi : i = nI I) (hI : I + 6 ≤ L) (hL : L < 2 ^ 31) (hk : KO (c + 1) k) : wp_law_18 L xs sv dn dt ds hn hc hK rP rL tL tC tn tp tc mg mkept mspare mtrial mpast mreport mpart mcome morder mtext mtold mahead mhasKept mpasts mreports mthrown mordering mdetail mlength mspot mnumber mtolds vo vd i k := by
  obtain ⟨b, n, hbn, hR, hS, hH, hRR, hT⟩ := h
  have hR1 := Rel_up hR (Nat.le_succ b)
  unfold wp_law_18 wp_L_sell
  have bt : ∀ i2, i2 < cn (mg 2) → xs (i + 1).toNatClampNeg = nI i2 → wi (xs (i + 1).toNatClampNeg) 0 (mg 2 - 1) = true := fun i2 h2 e => by
    have e2 := (IB_nb (Inv_B hR.1)).1
    have h60 := (IB_nb (Inv_B hR.1)).2
    obtain ⟨q, hq⟩ : ∃ q, cn (mg 2) = q + 1 := ⟨cn (mg 2) - 1, by omega⟩
    rw [e, e2, hq, nI_pred]
    exact wi_nI (lo := 0) (by omega) (by omega) (by omega)
  have h60 := (IB_nb (Inv_B hR.1)).2
  have sm : ∀ i1 i2, i1 < cn (mg 2) → i2 < cn (mg 2) → xs (i + 1).toNatClampNeg = nI i1 → xs (i + 1).toNatClampNeg = nI i2 → i1 = i2 := fun i1 i2 h1 h2 e1 e2 => (nI_eq (by omega) (by omega)).mp (e1.symm.trans e2)
  refine ⟨vI hi hI hL 1, tc_sell hR hH (fun w => ?_) (fun i1 em hi1 ne R hs => ?_) (fun i1 c1 N C em hi1 ha hc1 hr => ?_)⟩
  · exact Or.inl ⟨rfl, vI hi hI hL 1, tm_sell hR hH (fun _ => finE (by first | exact ne1_0 | exact ne2_0 | exact ne3_0) (ko hk (RL_st hbn hR1 hS hH hRR hT))) (fun i2 em2 hi2 _ _ _ _ => absurd (w.symm.trans (bt i2 hi2 em2)) (fun h => Bool.noConfusion h)) (fun i2 _ _ em2 hi2 _ _ => absurd (w.symm.trans (bt i2 hi2 em2)) (fun h => Bool.noConfusion h))⟩
  · refine Or.inr ⟨rfl, vI hi hI hL 1, tm_sell hR hH (fun w => absurd (w.symm.trans (bt i1 hi1 em)) (fun h => Bool.noConfusion h)) (fun i2 em2 hi2 ne2 R2 md hs2 => ?_) (fun i2 _ _ em2 hi2 ha2 _ => absurd ((congrArg (agR mg) (sm i1 i2 hi1 hi2 em em2)).trans ha2) ne)⟩
    obtain rfl := sm i1 i2 hi1 hi2 em em2
    exact finE (by first | exact ne1_0 | exact ne2_0 | exact ne3_0) (ko hk (RL_st hbn hR1 hS hH (RR_four hs hs2) hT))
  · refine ⟨vpz, vI hi hI hL 1, tm_sell hR hH (fun w => absurd (w.symm.trans (bt i1 hi1 em)) (fun h => Bool.noConfusion h)) (fun i2 em2 hi2 ne2 _ _ _ => absurd ((congrArg (agR mg) (sm i1 i2 hi1 hi2 em em2)).symm.trans ha) ne2) (fun i2 c2 md em2 hi2 ha2 hc2 => ?_)⟩
    obtain rfl := sm i1 i2 hi1 hi2 em em2
    obtain rfl : c1 = c2 := Option.some.inj (hc1.symm.trans hc2)
    exact fin0 (vo := vo) (ko hk (RL_st hbn (Rel_up hr (Nat.le_succ b)) hS (HR_keep hH hR) hRR hT))
theorem t_law_19 (h : LwR c sv dn ds hn hc hK rP rL tL tn mg mkept mpast mreport mtext mhasKept mpasts mreports mlength) (hc5 : c < 512) (hi : i = nI I) (hI : I + 6 ≤ L) (hL : L < 2 ^ 31) (hk : KO (c + 1) k) : wp_law_19 L xs sv dn dt ds hn hc hK rP rL tL tC tn tp tc mg mkept mspare mtrial mpast mreport mpart mcome morder mtext mtold mahead mhasKept mpasts mreports mthrown mordering mdetail mlength mspot mnumber mtolds vo vd i k := by
  obtain ⟨b, n, hbn, hR, hS, hH, hRR, hT⟩ := h
  have hR1 := Rel_up hR (Nat.le_succ b)
  unfold wp_law_19
  exact tc_sellAll hR hH (fun s N C hr => tm_sellAll2 hR hH (fun _ _ => finQ (ko hk (RL_st hbn (Rel_up (Rel_o hr) (Nat.le_succ b)) hS (HR_keep hH hR) hRR hT))))
theorem t_law_25 (h : LwR c sv dn ds hn hc hK rP rL tL tn mg mkept mpast mreport mtext mhasKept mpasts mreports mlength) (hc5 : c < 512) (hi : i = nI I) (hI : I + 6 ≤ L) (hL : L < 2 ^ 31) (hk : KO (c + 1) k) : wp_law_25 L xs sv dn dt ds hn hc hK rP rL tL tC tn tp tc mg mkept mspare mtrial mpast mreport mpart mcome morder mtext mtold mahead mhasKept mpasts mreports mthrown mordering mdetail mlength mspot mnumber mtolds vo vd i k := by
  obtain ⟨b, n, hbn, hR, hS, hH, hRR, hT⟩ := h
  have hR1 := Rel_up hR (Nat.le_succ b)
  unfold wp_law_25 wp_L_append
  obtain ⟨h80, ht, hl, hu⟩ := hT
  rcases Nat.lt_or_ge n 80 with h8 | h8
  · refine ⟨vI hi hI hL 1, tc_append ht h80 (fun _ => ⟨vpz, vI hi hI hL 1, tm_append hl h80 (fun _ => fin0 (vo := vo) (ko hk ⟨b, n + 1, by omega, hR, hS, hH, hRR, by omega, rfl, rfl, fun x hx => ?_⟩)) (fun h => absurd h (by omega))⟩) (fun h => absurd h (by omega))⟩
    rw [nar_c]
    show upd mtext n (xI2c (xs (i + 1).toNatClampNeg)) x = upd tL n (xI2c (xs (i + 1).toNatClampNeg)) x
    by_cases hx2 : x = n
    · rw [u_at hx2, u_at hx2]
    · rw [un hx2, un hx2]
      exact hu x (by omega)
  · have e8 : n = 80 := by omega
    exact ⟨vI hi hI hL 1, tc_append ht h80 (fun h => absurd h (by omega)) (fun _ => ⟨rfl, vI hi hI hL 1, tm_append hl h80 (fun h => absurd h (by omega)) (fun _ => finE (by first | exact ne1_0 | exact ne2_0 | exact ne3_0) (ko hk (RL_st hbn hR1 hS hH hRR ⟨h80, ht, rfl, hu⟩)))⟩)⟩
theorem t_law_26 (h : LwR c sv dn ds hn hc hK rP rL tL tn mg mkept mpast mreport mtext mhasKept mpasts mreports mlength) (hc5 : c < 512) (hi : i = nI I) (hI : I + 6 ≤ L) (hL : L < 2 ^ 31) (hk : KO (c + 1) k) : wp_law_26 L xs sv dn dt ds hn hc hK rP rL tL tC tn tp tc mg mkept mspare mtrial mpast mreport mpart mcome morder mtext mtold mahead mhasKept mpasts mreports mthrown mordering mdetail mlength mspot mnumber mtolds vo vd i k := by
  obtain ⟨b, n, hbn, hR, hS, hH, hRR, hT⟩ := h
  have hR1 := Rel_up hR (Nat.le_succ b)
  unfold wp_law_26 wp_L_perform
  obtain ⟨h80, ht, hl, hu⟩ := hT
  have hb : b + n ≤ 600 := by omega
  refine tc_perform hb hR hH ht h80 (fun h0 cc0 T0 => ?_) (fun Ls h1 h2 XX w0 w1 w2 w3 w4 w5 w6 w7 w8 w9 w10 w11 w12 hr => ?_) (fun Ls q r h1 h2 y0 y1 y2 y3 y4 y5 y6 y7 y8 y9 y10 rL2 rP2 s1 c1 T1 hp => ?_)
  · exact ⟨vpz, tm_perform hb hR hH hl h80 hu (fun _ _ _ _ => fin0 (vo := vo) (ko hk (RL_p (by omega) hR hS hH hRR))) (fun _ h => absurd (h0.symm.trans h) (fun h => by cases h)) (fun _ _ _ h => absurd (h0.symm.trans h) (fun h => by cases h))⟩
  · refine ⟨vpz, tm_perform hb hR hH hl h80 hu (fun h => absurd (h.symm.trans h1) (fun h => by cases h)) (fun L2 h3 _ md s1 m1 T1 p1 c1 told ahead he => ?_) (fun L2 q r h3 h4 => ?_)⟩
    · obtain rfl : Ls = L2 := Option.some.inj (h1.symm.trans h3)
      have hlen := psF_ok 28 0 Ls (Nat.zero_le n) h1
      exact fin0 (vo := vo) (ko hk (RL_hp (b := b) (by omega) (by omega) (Rel_copy hr) hS (HR_keep hH (Rel_eq he hR)) hRR))
    · obtain rfl : Ls = L2 := Option.some.inj (h1.symm.trans h3)
      exact absurd (h2.symm.trans h4) (fun h => by cases h)
  · refine ⟨rfl, tm_perform hb hR hH hl h80 hu (fun h => absurd (h.symm.trans h1) (fun h => by cases h)) (fun L2 h3 h4 => ?_) (fun L2 q2 r2 h3 h4 n1 rep2 md s2 m1 c2 g2 T2 p1 cm told ahead hm he => ?_)⟩
    · obtain rfl : Ls = L2 := Option.some.inj (h1.symm.trans h3)
      exact absurd (h2.symm.trans h4) (fun h => by cases h)
    · obtain rfl : Ls = L2 := Option.some.inj (h1.symm.trans h3)
      have e2 := Option.some.inj (h2.symm.trans h4)
      obtain ⟨rfl, rfl⟩ := Prod.mk.inj e2
      exact finE (by first | exact ne1_0 | exact ne2_0 | exact ne3_0) (ko hk (RL_p (by omega) (Rel_eq he hR) hS hH (RR_P hRR hp hm (pfG_some Ls 0 mg q r h2))))
theorem t_law_27 (h : LwR c sv dn ds hn hc hK rP rL tL tn mg mkept mpast mreport mtext mhasKept mpasts mreports mlength) (hc5 : c < 512) (hi : i = nI I) (hI : I + 6 ≤ L) (hL : L < 2 ^ 31) (hk : KO (c + 1) k) : wp_law_27 L xs sv dn dt ds hn hc hK rP rL tL tC tn tp tc mg mkept mspare mtrial mpast mreport mpart mcome morder mtext mtold mahead mhasKept mpasts mreports mthrown mordering mdetail mlength mspot mnumber mtolds vo vd i k := by
  obtain ⟨b, n, hbn, hR, hS, hH, hRR, hT⟩ := h
  have hR1 := Rel_up hR (Nat.le_succ b)
  unfold wp_law_27 wp_L_undo
  rcases j_undo (dn := dn) (g := mg) hH with ⟨hc1, hm1⟩ | ⟨XX, hn2, hc2, g2, hr, hH2, hc1, hm1⟩
  · exact hc1 _ _ ⟨rfl, hm1 _ (finE (by first | exact ne1_0 | exact ne2_0 | exact ne3_0) (ko hk (RL_st hbn hR1 hS hH hRR hT)))⟩
  · exact hc1 _ _ ⟨vpz, hm1 _ (fin0 (vo := vo) (ko hk (RL_st hbn (Rel_up hr (Nat.le_succ b)) hS hH2 hRR hT)))⟩
theorem t_law_28 (h : LwR c sv dn ds hn hc hK rP rL tL tn mg mkept mpast mreport mtext mhasKept mpasts mreports mlength) (hc5 : c < 512) (hi : i = nI I) (hI : I + 6 ≤ L) (hL : L < 2 ^ 31) (hk : KO (c + 1) k) : wp_law_28 L xs sv dn dt ds hn hc hK rP rL tL tC tn tp tc mg mkept mspare mtrial mpast mreport mpart mcome morder mtext mtold mahead mhasKept mpasts mreports mthrown mordering mdetail mlength mspot mnumber mtolds vo vd i k := by
  obtain ⟨b, n, hbn, hR, hS, hH, hRR, hT⟩ := h
  have hR1 := Rel_up hR (Nat.le_succ b)
  unfold wp_law_28
  obtain ⟨hr, hc1, hm1⟩ := u_save (ds := ds) (mkept := mkept) hR
  exact hc1 _ (hm1 _ (finQ (ko hk (RL_st hbn hR1 (Or.inr ⟨rfl, rfl, hr⟩) hH hRR hT))))
theorem t_law_29 (h : LwR c sv dn ds hn hc hK rP rL tL tn mg mkept mpast mreport mtext mhasKept mpasts mreports mlength) (hc5 : c < 512) (hi : i = nI I) (hI : I + 6 ≤ L) (hL : L < 2 ^ 31) (hk : KO (c + 1) k) : wp_law_29 L xs sv dn dt ds hn hc hK rP rL tL tC tn tp tc mg mkept mspare mtrial mpast mreport mpart mcome morder mtext mtold mahead mhasKept mpasts mreports mthrown mordering mdetail mlength mspot mnumber mtolds vo vd i k := by
  obtain ⟨b, n, hbn, hR, hS, hH, hRR, hT⟩ := h
  have hR1 := Rel_up hR (Nat.le_succ b)
  unfold wp_law_29 wp_L_restore
  rcases u_rest (d := dn) (g := mg) (pasts := mpasts) hS with ⟨v, g2, hr, hc1, hm1⟩ | ⟨hc1, hm1⟩
  · exact hc1 _ _ ⟨vpz, hm1 _ (fin0 (vo := vo) (ko hk (RL_st hbn (Rel_up hr (Nat.le_succ b)) hS (HR_0 hH) hRR hT)))⟩
  · exact hc1 _ _ ⟨rfl, hm1 _ (finE (by first | exact ne1_0 | exact ne2_0 | exact ne3_0) (ko hk (RL_st hbn hR1 hS hH hRR hT)))⟩
end LD
