theorem ne1_0 : ¬ (1 : Int32) = 0 := by decide
theorem ne2_0 : ¬ (2 : Int32) = 0 := by decide
theorem ne3_0 : ¬ (3 : Int32) = 0 := by decide
section LA
variable {c I L : Nat} {xs : Nat → Int32} {sv : Int32} {dn : PD} {dt : PD} {ds : PD} {hn : Int32} {hc : Int32} {hK : Nat → PD} {rP : XRow} {rL : Int32} {tL : XRow} {tC : XRow} {tn : Int32} {tp : Int32} {tc : Int32} {mg : XRow} {mkept : XRow} {mspare : XRow} {mtrial : XRow} {mpast : XRow} {mreport : XRow} {mpart : XRow} {mcome : XRow} {morder : XRow} {mtext : XRow} {mtold : XRow} {mahead : XRow} {mhasKept : Int32} {mpasts : Int32} {mreports : Int32} {mthrown : Int32} {mordering : Int32} {mdetail : Int32} {mlength : Int32} {mspot : Int32} {mnumber : Int32} {mtolds : Int32} {vo : Nat → Int64} {vd : Nat → UInt64} {i : Int32} {k : KT}
theorem t_law_4 (h : LwR c sv dn ds hn hc hK rP rL tL tn mg mkept mpast mreport mtext mhasKept mpasts mreports mlength) (hc5 : c < 512) (hi : i = nI I) (hI : I + 6 ≤ L) (hL : L < 2 ^ 31) (hk : KO (c + 1) k) : wp_law_4 L xs sv dn dt ds hn hc hK rP rL tL tC tn tp tc mg mkept mspare mtrial mpast mreport mpart mcome morder mtext mtold mahead mhasKept mpasts mreports mthrown mordering mdetail mlength mspot mnumber mtolds vo vd i k := by
  obtain ⟨b, n, hbn, hR, hS, hH, hRR, hT⟩ := h
  have hR1 := Rel_up hR (Nat.le_succ b)
  unfold wp_law_4 wp_L_machine
  rcases j_machine (p0 := xs (i + 1).toNatClampNeg) (p1 := xs (i + 2).toNatClampNeg) hR with ⟨v, hc1, hm1⟩ | ⟨hc1, hm1⟩ | ⟨hc1, hm1⟩
  · exact ⟨vI hi hI hL 1, vI hi hI hL 2, hc1 _ _ ⟨vpz, vI hi hI hL 1, vI hi hI hL 2, hm1 _ (fin0 (vo := vo) (ko hk (RL_st hbn hR1 hS hH hRR hT)))⟩⟩
  · exact ⟨vI hi hI hL 1, vI hi hI hL 2, hc1 _ _ (Or.inl ⟨rfl, vI hi hI hL 1, vI hi hI hL 2, hm1 _ (finE (by first | exact ne1_0 | exact ne2_0 | exact ne3_0) (ko hk (RL_st hbn hR1 hS hH hRR hT)))⟩)⟩
  · exact ⟨vI hi hI hL 1, vI hi hI hL 2, hc1 _ _ (Or.inr ⟨rfl, vI hi hI hL 1, vI hi hI hL 2, hm1 _ (finE (by first | exact ne1_0 | exact ne2_0 | exact ne3_0) (ko hk (RL_st hbn hR1 hS hH hRR hT)))⟩)⟩
theorem t_law_12 (h : LwR c sv dn ds hn hc hK rP rL tL tn mg mkept mpast mreport mtext mhasKept mpasts mreports mlength) (hc5 : c < 512) (hi : i = nI I) (hI : I + 6 ≤ L) (hL : L < 2 ^ 31) (hk : KO (c + 1) k) : wp_law_12 L xs sv dn dt ds hn hc hK rP rL tL tC tn tp tc mg mkept mspare mtrial mpast mreport mpart mcome morder mtext mtold mahead mhasKept mpasts mreports mthrown mordering mdetail mlength mspot mnumber mtolds vo vd i k := by
  obtain ⟨b, n, hbn, hR, hS, hH, hRR, hT⟩ := h
  have hR1 := Rel_up hR (Nat.le_succ b)
  unfold wp_law_12 wp_L_kilos
  rcases j_kilos (p0 := xs (i + 1).toNatClampNeg) (p1 := xs (i + 2).toNatClampNeg) hR with ⟨v, hc1, hm1⟩ | ⟨hc1, hm1⟩ | ⟨hc1, hm1⟩
  · exact ⟨vI hi hI hL 1, vI hi hI hL 2, hc1 _ _ ⟨vpz, vI hi hI hL 1, vI hi hI hL 2, hm1 _ (fin0 (vo := vo) (ko hk (RL_st hbn hR1 hS hH hRR hT)))⟩⟩
  · exact ⟨vI hi hI hL 1, vI hi hI hL 2, hc1 _ _ (Or.inl ⟨rfl, vI hi hI hL 1, vI hi hI hL 2, hm1 _ (finE (by first | exact ne1_0 | exact ne2_0 | exact ne3_0) (ko hk (RL_st hbn hR1 hS hH hRR hT)))⟩)⟩
  · exact ⟨vI hi hI hL 1, vI hi hI hL 2, hc1 _ _ (Or.inr ⟨rfl, vI hi hI hL 1, vI hi hI hL 2, hm1 _ (finE (by first | exact ne1_0 | exact ne2_0 | exact ne3_0) (ko hk (RL_st hbn hR1 hS hH hRR hT)))⟩)⟩
theorem t_law_13 (h : LwR c sv dn ds hn hc hK rP rL tL tn mg mkept mpast mreport mtext mhasKept mpasts mreports mlength) (hc5 : c < 512) (hi : i = nI I) (hI : I + 6 ≤ L) (hL : L < 2 ^ 31) (hk : KO (c + 1) k) : wp_law_13 L xs sv dn dt ds hn hc hK rP rL tL tC tn tp tc mg mkept mspare mtrial mpast mreport mpart mcome morder mtext mtold mahead mhasKept mpasts mreports mthrown mordering mdetail mlength mspot mnumber mtolds vo vd i k := by
  obtain ⟨b, n, hbn, hR, hS, hH, hRR, hT⟩ := h
  have hR1 := Rel_up hR (Nat.le_succ b)
  unfold wp_law_13 wp_L_bale
  rcases j_bale (p0 := xs (i + 1).toNatClampNeg) (p1 := xs (i + 2).toNatClampNeg) hR with ⟨v, hc1, hm1⟩ | ⟨hc1, hm1⟩ | ⟨hc1, hm1⟩
  · exact ⟨vI hi hI hL 1, vI hi hI hL 2, hc1 _ _ ⟨vpz, vI hi hI hL 1, vI hi hI hL 2, hm1 _ (fin0 (vo := vo) (ko hk (RL_st hbn hR1 hS hH hRR hT)))⟩⟩
  · exact ⟨vI hi hI hL 1, vI hi hI hL 2, hc1 _ _ (Or.inl ⟨rfl, vI hi hI hL 1, vI hi hI hL 2, hm1 _ (finE (by first | exact ne1_0 | exact ne2_0 | exact ne3_0) (ko hk (RL_st hbn hR1 hS hH hRR hT)))⟩)⟩
  · exact ⟨vI hi hI hL 1, vI hi hI hL 2, hc1 _ _ (Or.inr ⟨rfl, vI hi hI hL 1, vI hi hI hL 2, hm1 _ (finE (by first | exact ne1_0 | exact ne2_0 | exact ne3_0) (ko hk (RL_st hbn hR1 hS hH hRR hT)))⟩)⟩
theorem t_law_15 (h : LwR c sv dn ds hn hc hK rP rL tL tn mg mkept mpast mreport mtext mhasKept mpasts mreports mlength) (hc5 : c < 512) (hi : i = nI I) (hI : I + 6 ≤ L) (hL : L < 2 ^ 31) (hk : KO (c + 1) k) : wp_law_15 L xs sv dn dt ds hn hc hK rP rL tL tC tn tp tc mg mkept mspare mtrial mpast mreport mpart mcome morder mtext mtold mahead mhasKept mpasts mreports mthrown mordering mdetail mlength mspot mnumber mtolds vo vd i k := by
  obtain ⟨b, n, hbn, hR, hS, hH, hRR, hT⟩ := h
  have hR1 := Rel_up hR (Nat.le_succ b)
  unfold wp_law_15 wp_L_stock
  rcases j_stock (p0 := xs (i + 1).toNatClampNeg) (p1 := xs (i + 2).toNatClampNeg) hR with ⟨v, hc1, hm1⟩ | ⟨hc1, hm1⟩ | ⟨hc1, hm1⟩
  · exact ⟨vI hi hI hL 1, vI hi hI hL 2, hc1 _ _ ⟨vpz, vI hi hI hL 1, vI hi hI hL 2, hm1 _ (fin0 (vo := vo) (ko hk (RL_st hbn hR1 hS hH hRR hT)))⟩⟩
  · exact ⟨vI hi hI hL 1, vI hi hI hL 2, hc1 _ _ (Or.inl ⟨rfl, vI hi hI hL 1, vI hi hI hL 2, hm1 _ (finE (by first | exact ne1_0 | exact ne2_0 | exact ne3_0) (ko hk (RL_st hbn hR1 hS hH hRR hT)))⟩)⟩
  · exact ⟨vI hi hI hL 1, vI hi hI hL 2, hc1 _ _ (Or.inr ⟨rfl, vI hi hI hL 1, vI hi hI hL 2, hm1 _ (finE (by first | exact ne1_0 | exact ne2_0 | exact ne3_0) (ko hk (RL_st hbn hR1 hS hH hRR hT)))⟩)⟩
theorem t_law_17 (h : LwR c sv dn ds hn hc hK rP rL tL tn mg mkept mpast mreport mtext mhasKept mpasts mreports mlength) (hc5 : c < 512) (hi : i = nI I) (hI : I + 6 ≤ L) (hL : L < 2 ^ 31) (hk : KO (c + 1) k) : wp_law_17 L xs sv dn dt ds hn hc hK rP rL tL tC tn tp tc mg mkept mspare mtrial mpast mreport mpart mcome morder mtext mtold mahead mhasKept mpasts mreports mthrown mordering mdetail mlength mspot mnumber mtolds vo vd i k := by
  obtain ⟨b, n, hbn, hR, hS, hH, hRR, hT⟩ := h
  have hR1 := Rel_up hR (Nat.le_succ b)
  unfold wp_law_17 wp_L_contractOf
  rcases j_contractOf (p0 := xs (i + 1).toNatClampNeg) (p1 := xs (i + 2).toNatClampNeg) hR with ⟨v, hc1, hm1⟩ | ⟨hc1, hm1⟩ | ⟨hc1, hm1⟩
  · exact ⟨vI hi hI hL 1, vI hi hI hL 2, hc1 _ _ ⟨vpz, vI hi hI hL 1, vI hi hI hL 2, hm1 _ (fin0 (vo := vo) (ko hk (RL_st hbn hR1 hS hH hRR hT)))⟩⟩
  · exact ⟨vI hi hI hL 1, vI hi hI hL 2, hc1 _ _ (Or.inl ⟨rfl, vI hi hI hL 1, vI hi hI hL 2, hm1 _ (finE (by first | exact ne1_0 | exact ne2_0 | exact ne3_0) (ko hk (RL_st hbn hR1 hS hH hRR hT)))⟩)⟩
  · exact ⟨vI hi hI hL 1, vI hi hI hL 2, hc1 _ _ (Or.inr ⟨rfl, vI hi hI hL 1, vI hi hI hL 2, hm1 _ (finE (by first | exact ne1_0 | exact ne2_0 | exact ne3_0) (ko hk (RL_st hbn hR1 hS hH hRR hT)))⟩)⟩
theorem t_law_22 (h : LwR c sv dn ds hn hc hK rP rL tL tn mg mkept mpast mreport mtext mhasKept mpasts mreports mlength) (hc5 : c < 512) (hi : i = nI I) (hI : I + 6 ≤ L) (hL : L < 2 ^ 31) (hk : KO (c + 1) k) : wp_law_22 L xs sv dn dt ds hn hc hK rP rL tL tC tn tp tc mg mkept mspare mtrial mpast mreport mpart mcome morder mtext mtold mahead mhasKept mpasts mreports mthrown mordering mdetail mlength mspot mnumber mtolds vo vd i k := by
  obtain ⟨b, n, hbn, hR, hS, hH, hRR, hT⟩ := h
  have hR1 := Rel_up hR (Nat.le_succ b)
  unfold wp_law_22 wp_L_account
  rcases j_account (p0 := xs (i + 1).toNatClampNeg) hR with ⟨v, hc1, hm1⟩ | ⟨hc1, hm1⟩
  · exact ⟨vI hi hI hL 1, hc1 _ _ ⟨vpz, vI hi hI hL 1, hm1 _ (fin0 (vo := vo) (ko hk (RL_st hbn hR1 hS hH hRR hT)))⟩⟩
  · exact ⟨vI hi hI hL 1, hc1 _ _ ⟨rfl, vI hi hI hL 1, hm1 _ (finE (by first | exact ne1_0 | exact ne2_0 | exact ne3_0) (ko hk (RL_st hbn hR1 hS hH hRR hT)))⟩⟩
theorem t_law_5 (h : LwR c sv dn ds hn hc hK rP rL tL tn mg mkept mpast mreport mtext mhasKept mpasts mreports mlength) (hc5 : c < 512) (hi : i = nI I) (hI : I + 6 ≤ L) (hL : L < 2 ^ 31) (hk : KO (c + 1) k) : wp_law_5 L xs sv dn dt ds hn hc hK rP rL tL tC tn tp tc mg mkept mspare mtrial mpast mreport mpart mcome morder mtext mtold mahead mhasKept mpasts mreports mthrown mordering mdetail mlength mspot mnumber mtolds vo vd i k := by
  obtain ⟨b, n, hbn, hR, hS, hH, hRR, hT⟩ := h
  have hR1 := Rel_up hR (Nat.le_succ b)
  unfold wp_law_5 wp_L_rate
  by_cases hz : xs (i + 3).toNatClampNeg = 0
  · rcases j_rate (p0 := xs (i + 1).toNatClampNeg) (p1 := xs (i + 2).toNatClampNeg) (p2 := false) hR with ⟨v, hc1, hm1⟩ | ⟨hc1, hm1⟩ | ⟨hc1, hm1⟩
    · exact ⟨vI hi hI hL 1, vI hi hI hL 2, vI hi hI hL 3, if_y hz (hc1 _ _ ⟨vpz, vI hi hI hL 1, vI hi hI hL 2, vI hi hI hL 3, if_y hz (hm1 _ (fin0 (vo := vo) (ko hk (RL_st hbn hR1 hS hH hRR hT))))⟩)⟩
    · exact ⟨vI hi hI hL 1, vI hi hI hL 2, vI hi hI hL 3, if_y hz (hc1 _ _ (Or.inl ⟨rfl, vI hi hI hL 1, vI hi hI hL 2, vI hi hI hL 3, if_y hz (hm1 _ (finE (by first | exact ne1_0 | exact ne2_0 | exact ne3_0) (ko hk (RL_st hbn hR1 hS hH hRR hT))))⟩))⟩
    · exact ⟨vI hi hI hL 1, vI hi hI hL 2, vI hi hI hL 3, if_y hz (hc1 _ _ (Or.inr ⟨rfl, vI hi hI hL 1, vI hi hI hL 2, vI hi hI hL 3, if_y hz (hm1 _ (finE (by first | exact ne1_0 | exact ne2_0 | exact ne3_0) (ko hk (RL_st hbn hR1 hS hH hRR hT))))⟩))⟩
  · rcases j_rate (p0 := xs (i + 1).toNatClampNeg) (p1 := xs (i + 2).toNatClampNeg) (p2 := true) hR with ⟨v, hc1, hm1⟩ | ⟨hc1, hm1⟩ | ⟨hc1, hm1⟩
    · exact ⟨vI hi hI hL 1, vI hi hI hL 2, vI hi hI hL 3, if_n hz (hc1 _ _ ⟨vpz, vI hi hI hL 1, vI hi hI hL 2, vI hi hI hL 3, if_n hz (hm1 _ (fin0 (vo := vo) (ko hk (RL_st hbn hR1 hS hH hRR hT))))⟩)⟩
    · exact ⟨vI hi hI hL 1, vI hi hI hL 2, vI hi hI hL 3, if_n hz (hc1 _ _ (Or.inl ⟨rfl, vI hi hI hL 1, vI hi hI hL 2, vI hi hI hL 3, if_n hz (hm1 _ (finE (by first | exact ne1_0 | exact ne2_0 | exact ne3_0) (ko hk (RL_st hbn hR1 hS hH hRR hT))))⟩))⟩
    · exact ⟨vI hi hI hL 1, vI hi hI hL 2, vI hi hI hL 3, if_n hz (hc1 _ _ (Or.inr ⟨rfl, vI hi hI hL 1, vI hi hI hL 2, vI hi hI hL 3, if_n hz (hm1 _ (finE (by first | exact ne1_0 | exact ne2_0 | exact ne3_0) (ko hk (RL_st hbn hR1 hS hH hRR hT))))⟩))⟩
theorem t_law_21 (h : LwR c sv dn ds hn hc hK rP rL tL tn mg mkept mpast mreport mtext mhasKept mpasts mreports mlength) (hc5 : c < 512) (hi : i = nI I) (hI : I + 6 ≤ L) (hL : L < 2 ^ 31) (hk : KO (c + 1) k) : wp_law_21 L xs sv dn dt ds hn hc hK rP rL tL tC tn tp tc mg mkept mspare mtrial mpast mreport mpart mcome morder mtext mtold mahead mhasKept mpasts mreports mthrown mordering mdetail mlength mspot mnumber mtolds vo vd i k := by
  obtain ⟨b, n, hbn, hR, hS, hH, hRR, hT⟩ := h
  have hR1 := Rel_up hR (Nat.le_succ b)
  unfold wp_law_21 wp_L_report
  by_cases hz : xs (i + 2).toNatClampNeg = 0
  · rcases j_report (p0 := xs (i + 1).toNatClampNeg) (p1 := false) hRR with ⟨v, hc1, hm1⟩ | ⟨hc1, hm1⟩
    · exact ⟨vI hi hI hL 1, vI hi hI hL 2, if_y hz (hc1 _ _ ⟨vpz, vI hi hI hL 1, vI hi hI hL 2, if_y hz (hm1 _ (fin0 (vo := vo) (ko hk (RL_st hbn hR1 hS hH hRR hT))))⟩)⟩
    · exact ⟨vI hi hI hL 1, vI hi hI hL 2, if_y hz (hc1 _ _ ⟨rfl, vI hi hI hL 1, vI hi hI hL 2, if_y hz (hm1 _ (finE (by first | exact ne1_0 | exact ne2_0 | exact ne3_0) (ko hk (RL_st hbn hR1 hS hH hRR hT))))⟩)⟩
  · rcases j_report (p0 := xs (i + 1).toNatClampNeg) (p1 := true) hRR with ⟨v, hc1, hm1⟩ | ⟨hc1, hm1⟩
    · exact ⟨vI hi hI hL 1, vI hi hI hL 2, if_n hz (hc1 _ _ ⟨vpz, vI hi hI hL 1, vI hi hI hL 2, if_n hz (hm1 _ (fin0 (vo := vo) (ko hk (RL_st hbn hR1 hS hH hRR hT))))⟩)⟩
    · exact ⟨vI hi hI hL 1, vI hi hI hL 2, if_n hz (hc1 _ _ ⟨rfl, vI hi hI hL 1, vI hi hI hL 2, if_n hz (hm1 _ (finE (by first | exact ne1_0 | exact ne2_0 | exact ne3_0) (ko hk (RL_st hbn hR1 hS hH hRR hT))))⟩)⟩
theorem t_law_20 (h : LwR c sv dn ds hn hc hK rP rL tL tn mg mkept mpast mreport mtext mhasKept mpasts mreports mlength) (hc5 : c < 512) (hi : i = nI I) (hI : I + 6 ≤ L) (hL : L < 2 ^ 31) (hk : KO (c + 1) k) : wp_law_20 L xs sv dn dt ds hn hc hK rP rL tL tC tn tp tc mg mkept mspare mtrial mpast mreport mpart mcome morder mtext mtold mahead mhasKept mpasts mreports mthrown mordering mdetail mlength mspot mnumber mtolds vo vd i k := by
  obtain ⟨b, n, hbn, hR, hS, hH, hRR, hT⟩ := h
  have hR1 := Rel_up hR (Nat.le_succ b)
  unfold wp_law_20 wp_L_wouldSell
  rcases j_would (md := mdetail) (p0 := xs (i + 1).toNatClampNeg) hR with ⟨v, hc1, hm1⟩ | ⟨hc1, hm1⟩ | ⟨hc1, hm1⟩
  · exact ⟨vI hi hI hL 1, hc1 _ _ ⟨vpz, vI hi hI hL 1, hm1 _ (fun md => fin0 (vo := vo) (ko hk (RL_st hbn hR1 hS hH hRR hT)))⟩⟩
  · exact ⟨vI hi hI hL 1, hc1 _ _ (Or.inl ⟨rfl, vI hi hI hL 1, hm1 _ (fun md => finE (by first | exact ne1_0 | exact ne2_0 | exact ne3_0) (ko hk (RL_st hbn hR1 hS hH hRR hT)))⟩)⟩
  · exact ⟨vI hi hI hL 1, hc1 _ _ (Or.inr ⟨rfl, vI hi hI hL 1, hm1 _ (fun md => finE (by first | exact ne1_0 | exact ne2_0 | exact ne3_0) (ko hk (RL_st hbn hR1 hS hH hRR hT)))⟩)⟩
theorem t_law_14 (h : LwR c sv dn ds hn hc hK rP rL tL tn mg mkept mpast mreport mtext mhasKept mpasts mreports mlength) (hc5 : c < 512) (hi : i = nI I) (hI : I + 6 ≤ L) (hL : L < 2 ^ 31) (hk : KO (c + 1) k) : wp_law_14 L xs sv dn dt ds hn hc hK rP rL tL tC tn tp tc mg mkept mspare mtrial mpast mreport mpart mcome morder mtext mtold mahead mhasKept mpasts mreports mthrown mordering mdetail mlength mspot mnumber mtolds vo vd i k := by
  obtain ⟨b, n, hbn, hR, hS, hH, hRR, hT⟩ := h
  have hR1 := Rel_up hR (Nat.le_succ b)
  unfold wp_law_14 wp_L_ordered
  rcases j_ordered (s0 := morder) (p0 := xs (i + 1).toNatClampNeg) hR with ⟨v, hc1, hm1⟩ | ⟨hc1, hm1⟩
  · exact ⟨vI hi hI hL 1, hc1 _ _ (fun s => ⟨vpz, vI hi hI hL 1, hm1 _ (fun _ _ => fin0 (vo := vo) (ko hk (RL_st hbn (Rel_o hR1) hS hH hRR hT)))⟩)⟩
  · exact ⟨vI hi hI hL 1, hc1 _ _ (fun s => ⟨rfl, vI hi hI hL 1, hm1 _ (fun _ _ => finE (by first | exact ne1_0 | exact ne2_0 | exact ne3_0) (ko hk (RL_st hbn (Rel_o hR1) hS hH hRR hT)))⟩)⟩
theorem t_law_23 (h : LwR c sv dn ds hn hc hK rP rL tL tn mg mkept mpast mreport mtext mhasKept mpasts mreports mlength) (hc5 : c < 512) (hi : i = nI I) (hI : I + 6 ≤ L) (hL : L < 2 ^ 31) (hk : KO (c + 1) k) : wp_law_23 L xs sv dn dt ds hn hc hK rP rL tL tC tn tp tc mg mkept mspare mtrial mpast mreport mpart mcome morder mtext mtold mahead mhasKept mpasts mreports mthrown mordering mdetail mlength mspot mnumber mtolds vo vd i k := by
  obtain ⟨b, n, hbn, hR, hS, hH, hRR, hT⟩ := h
  have hR1 := Rel_up hR (Nat.le_succ b)
  unfold wp_law_23 wp_L_purity
  rcases j_purity hR with ⟨v, hv, hc1, hm1⟩ | ⟨hc1, hm1⟩
  · exact hc1 _ _ ⟨vpz, hm1 _ (finD (vo := vd) hv (ko hk (RL_st hbn hR1 hS hH hRR hT)))⟩
  · exact hc1 _ _ ⟨rfl, hm1 _ (finE (by first | exact ne1_0 | exact ne2_0 | exact ne3_0) (ko hk (RL_st hbn hR1 hS hH hRR hT)))⟩
theorem t_law_24 (h : LwR c sv dn ds hn hc hK rP rL tL tn mg mkept mpast mreport mtext mhasKept mpasts mreports mlength) (hc5 : c < 512) (hi : i = nI I) (hI : I + 6 ≤ L) (hL : L < 2 ^ 31) (hk : KO (c + 1) k) : wp_law_24 L xs sv dn dt ds hn hc hK rP rL tL tC tn tp tc mg mkept mspare mtrial mpast mreport mpart mcome morder mtext mtold mahead mhasKept mpasts mreports mthrown mordering mdetail mlength mspot mnumber mtolds vo vd i k := by
  obtain ⟨b, n, hbn, hR, hS, hH, hRR, hT⟩ := h
  have hR1 := Rel_up hR (Nat.le_succ b)
  unfold wp_law_24 wp_L_wasted
  rcases j_wasted (p0 := xs (i + 1).toNatClampNeg) (by omega) hR with ⟨v, hv0, hv, hc1, hm1⟩ | ⟨hc1, hm1⟩ | ⟨hc1, hm1⟩
  · exact ⟨vI hi hI hL 1, hc1 _ _ ⟨hv0, vpz, vI hi hI hL 1, hm1 _ (finW (vo := vd) hv0 hv (ko hk (RL_st hbn hR1 hS hH hRR hT)))⟩⟩
  · exact ⟨vI hi hI hL 1, hc1 _ _ (Or.inl ⟨rfl, vI hi hI hL 1, hm1 _ (finE (by first | exact ne1_0 | exact ne2_0 | exact ne3_0) (ko hk (RL_st hbn hR1 hS hH hRR hT)))⟩)⟩
  · exact ⟨vI hi hI hL 1, hc1 _ _ (Or.inr ⟨rfl, vI hi hI hL 1, hm1 _ (finE (by first | exact ne1_0 | exact ne2_0 | exact ne3_0) (ko hk (RL_st hbn hR1 hS hH hRR hT)))⟩)⟩
end LA
