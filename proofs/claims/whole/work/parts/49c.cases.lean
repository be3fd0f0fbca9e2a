section LB
variable {c I L : Nat} {xs : Nat → Int32} {sv : Int32} {dn : PD} {dt : PD} {ds : PD} {hn : Int32} {hc : Int32} {hK : Nat → PD} {rP : XRow} {rL : Int32} {tL : XRow} {tC : XRow} {tn : Int32} {tp : Int32} {tc : Int32} {mg : XRow} {mkept : XRow} {mspare : XRow} {mtrial : XRow} {mpast : XRow} {mreport : XRow} {mpart : XRow} {mcome : XRow} {morder : XRow} {mtext : XRow} {mtold : XRow} {mahead : XRow} {mhasKept : Int32} {mpasts : Int32} {mreports : Int32} {mthrown : Int32} {mordering : Int32} {mdetail : Int32} {mlength : Int32} {mspot : Int32} {mnumber : Int32} {mtolds : Int32} {vo : Nat → Int64} {vd : Nat → UInt64} {i : Int32} {k : KT}
theorem t_law_0 (h : LwR c sv dn ds hn hc hK rP rL tL tn mg mkept mpast mreport mtext mhasKept mpasts mreports mlength) (hc5 : c < 512) (hi : i = nI I) (hI : I + 6 ≤ L) (hL : L < 2 ^ 31) (hk : KO (c + 1) k) : wp_law_0 L xs sv dn dt ds hn hc hK rP rL tL tC tn tp tc mg mkept mspare mtrial mpast mreport mpart mcome morder mtext mtold mahead mhasKept mpasts mreports mthrown mordering mdetail mlength mspot mnumber mtolds vo vd i k := by
  obtain ⟨b, n, hbn, hR, hS, hH, hRR, hT⟩ := h
  have hR1 := Rel_up hR (Nat.le_succ b)
  unfold wp_law_0 wp_L_addMachine
  rcases u_add (p0 := xs (i + 1).toNatClampNeg) (p1 := xs (i + 2).toNatClampNeg) (p2 := xs (i + 3).toNatClampNeg) (p3 := xs (i + 4).toNatClampNeg) (p4 := xs (i + 5).toNatClampNeg) hR hH with ⟨w0, w1, w2, w3, hr, hc1, hm1⟩ | ⟨hc1, hm1⟩ | ⟨hc1, hm1⟩ | ⟨hc1, hm1⟩
  · exact ⟨vI hi hI hL 1, vI hi hI hL 2, vI hi hI hL 3, vI hi hI hL 4, vI hi hI hL 5, hc1 _ _ ⟨vpz, vI hi hI hL 1, vI hi hI hL 2, vI hi hI hL 3, vI hi hI hL 4, vI hi hI hL 5, hm1 _ (fin0 (vo := vo) (ko hk (RL_st hbn (Rel_up hr (Nat.le_succ b)) hS (HR_keep hH hR) hRR hT)))⟩⟩
  · exact ⟨vI hi hI hL 1, vI hi hI hL 2, vI hi hI hL 3, vI hi hI hL 4, vI hi hI hL 5, hc1 _ _ (Or.inl ⟨rfl, vI hi hI hL 1, vI hi hI hL 2, vI hi hI hL 3, vI hi hI hL 4, vI hi hI hL 5, hm1 _ (finE (by first | exact ne1_0 | exact ne2_0 | exact ne3_0) (ko hk (RL_st hbn hR1 hS hH hRR hT)))⟩)⟩
  · exact ⟨vI hi hI hL 1, vI hi hI hL 2, vI hi hI hL 3, vI hi hI hL 4, vI hi hI hL 5, hc1 _ _ (Or.inr (Or.inl ⟨rfl, vI hi hI hL 1, vI hi hI hL 2, vI hi hI hL 3, vI hi hI hL 4, vI hi hI hL 5, hm1 _ (finE (by first | exact ne1_0 | exact ne2_0 | exact ne3_0) (ko hk (RL_st hbn hR1 hS hH hRR hT)))⟩))⟩
  · exact ⟨vI hi hI hL 1, vI hi hI hL 2, vI hi hI hL 3, vI hi hI hL 4, vI hi hI hL 5, hc1 _ _ (Or.inr (Or.inr ⟨rfl, vI hi hI hL 1, vI hi hI hL 2, vI hi hI hL 3, vI hi hI hL 4, vI hi hI hL 5, hm1 _ (finE (by first | exact ne1_0 | exact ne2_0 | exact ne3_0) (ko hk (RL_st hbn hR1 hS hH hRR hT)))⟩))⟩
theorem t_law_1 (h : LwR c sv dn ds hn hc hK rP rL tL tn mg mkept mpast mreport mtext mhasKept mpasts mreports mlength) (hc5 : c < 512) (hi : i = nI I) (hI : I + 6 ≤ L) (hL : L < 2 ^ 31) (hk : KO (c + 1) k) : wp_law_1 L xs sv dn dt ds hn hc hK rP rL tL tC tn tp tc mg mkept mspare mtrial mpast mreport mpart mcome morder mtext mtold mahead mhasKept mpasts mreports mthrown mordering mdetail mlength mspot mnumber mtolds vo vd i k := by
  obtain ⟨b, n, hbn, hR, hS, hH, hRR, hT⟩ := h
  have hR1 := Rel_up hR (Nat.le_succ b)
  unfold wp_law_1 wp_L_removeMachine
  rcases u_rem  (by omega) hR hH with ⟨w0, w1, w2, w3, hr, hc1, hm1⟩ | ⟨hc1, hm1⟩
  · exact hc1 _ _ ⟨vpz, hm1 _ (fin0 (vo := vo) (ko hk (RL_st hbn (Rel_up hr (Nat.le_succ b)) hS (HR_keep hH hR) hRR hT)))⟩
  · exact hc1 _ _ ⟨rfl, hm1 _ (finE (by first | exact ne1_0 | exact ne2_0 | exact ne3_0) (ko hk (RL_st hbn hR1 hS hH hRR hT)))⟩
theorem t_law_2 (h : LwR c sv dn ds hn hc hK rP rL tL tn mg mkept mpast mreport mtext mhasKept mpasts mreports mlength) (hc5 : c < 512) (hi : i = nI I) (hI : I + 6 ≤ L) (hL : L < 2 ^ 31) (hk : KO (c + 1) k) : wp_law_2 L xs sv dn dt ds hn hc hK rP rL tL tC tn tp tc mg mkept mspare mtrial mpast mreport mpart mcome morder mtext mtold mahead mhasKept mpasts mreports mthrown mordering mdetail mlength mspot mnumber mtolds vo vd i k := by
  obtain ⟨b, n, hbn, hR, hS, hH, hRR, hT⟩ := h
  have hR1 := Rel_up hR (Nat.le_succ b)
  unfold wp_law_2 wp_L_exchange
  rcases u_exch (p0 := xs (i + 1).toNatClampNeg) (p1 := xs (i + 2).toNatClampNeg) hR hH with ⟨w0, w1, w2, w3, hr, hc1, hm1⟩ | ⟨hc1, hm1⟩
  · exact ⟨vI hi hI hL 1, vI hi hI hL 2, hc1 _ _ ⟨vpz, vI hi hI hL 1, vI hi hI hL 2, hm1 _ (fin0 (vo := vo) (ko hk (RL_st hbn (Rel_up hr (Nat.le_succ b)) hS (HR_keep hH hR) hRR hT)))⟩⟩
  · exact ⟨vI hi hI hL 1, vI hi hI hL 2, hc1 _ _ ⟨rfl, vI hi hI hL 1, vI hi hI hL 2, hm1 _ (finE (by first | exact ne1_0 | exact ne2_0 | exact ne3_0) (ko hk (RL_st hbn hR1 hS hH hRR hT)))⟩⟩
theorem t_law_3 (h : LwR c sv dn ds hn hc hK rP rL tL tn mg mkept mpast mreport mtext mhasKept mpasts mreports mlength) (hc5 : c < 512) (hi : i = nI I) (hI : I + 6 ≤ L) (hL : L < 2 ^ 31) (hk : KO (c + 1) k) : wp_law_3 L xs sv dn dt ds hn hc hK rP rL tL tC tn tp tc mg mkept mspare mtrial mpast mreport mpart mcome morder mtext mtold mahead mhasKept mpasts mreports mthrown mordering mdetail mlength mspot mnumber mtolds vo vd i k := by
  obtain ⟨b, n, hbn, hR, hS, hH, hRR, hT⟩ := h
  have hR1 := Rel_up hR (Nat.le_succ b)
  unfold wp_law_3 wp_L_setMachine
  rcases u_setM (p0 := xs (i + 1).toNatClampNeg) (p1 := xs (i + 2).toNatClampNeg) (p2 := xs (i + 3).toNatClampNeg) hR hH with ⟨w0, w1, w2, hr, hc1, hm1⟩ | ⟨hc1, hm1⟩ | ⟨hc1, hm1⟩
  · exact ⟨vI hi hI hL 1, vI hi hI hL 2, vI hi hI hL 3, hc1 _ _ ⟨vpz, vI hi hI hL 1, vI hi hI hL 2, vI hi hI hL 3, hm1 _ (fin0 (vo := vo) (ko hk (RL_st hbn (Rel_up hr (Nat.le_succ b)) hS (HR_keep hH hR) hRR hT)))⟩⟩
  · exact ⟨vI hi hI hL 1, vI hi hI hL 2, vI hi hI hL 3, hc1 _ _ (Or.inl ⟨rfl, vI hi hI hL 1, vI hi hI hL 2, vI hi hI hL 3, hm1 _ (finE (by first | exact ne1_0 | exact ne2_0 | exact ne3_0) (ko hk (RL_st hbn hR1 hS hH hRR hT)))⟩)⟩
  · exact ⟨vI hi hI hL 1, vI hi hI hL 2, vI hi hI hL 3, hc1 _ _ (Or.inr ⟨rfl, vI hi hI hL 1, vI hi hI hL 2, vI hi hI hL 3, hm1 _ (finE (by first | exact ne1_0 | exact ne2_0 | exact ne3_0) (ko hk (RL_st hbn hR1 hS hH hRR hT)))⟩)⟩
theorem t_law_6 (h : LwR c sv dn ds hn hc hK rP rL tL tn mg mkept mpast mreport mtext mhasKept mpasts mreports mlength) (hc5 : c < 512) (hi : i = nI I) (hI : I + 6 ≤ L) (hL : L < 2 ^ 31) (hk : KO (c + 1) k) : wp_law_6 L xs sv dn dt ds hn hc hK rP rL tL tC tn tp tc mg mkept mspare mtrial mpast mreport mpart mcome morder mtext mtold mahead mhasKept mpasts mreports mthrown mordering mdetail mlength mspot mnumber mtolds vo vd i k := by
  obtain ⟨b, n, hbn, hR, hS, hH, hRR, hT⟩ := h
  have hR1 := Rel_up hR (Nat.le_succ b)
  unfold wp_law_6 wp_L_set
  rcases u_set (p0 := xs (i + 1).toNatClampNeg) (p1 := xs (i + 2).toNatClampNeg) hR hH with ⟨w0, w1, w2, hr, hc1, hm1⟩ | ⟨hc1, hm1⟩ | ⟨hc1, hm1⟩
  · exact ⟨vI hi hI hL 1, vI hi hI hL 2, hc1 _ _ ⟨vpz, vI hi hI hL 1, vI hi hI hL 2, hm1 _ (fin0 (vo := vo) (ko hk (RL_st hbn (Rel_up hr (Nat.le_succ b)) hS (HR_keep hH hR) hRR hT)))⟩⟩
  · exact ⟨vI hi hI hL 1, vI hi hI hL 2, hc1 _ _ (Or.inl ⟨rfl, vI hi hI hL 1, vI hi hI hL 2, hm1 _ (finE (by first | exact ne1_0 | exact ne2_0 | exact ne3_0) (ko hk (RL_st hbn hR1 hS hH hRR hT)))⟩)⟩
  · exact ⟨vI hi hI hL 1, vI hi hI hL 2, hc1 _ _ (Or.inr ⟨rfl, vI hi hI hL 1, vI hi hI hL 2, hm1 _ (finE (by first | exact ne1_0 | exact ne2_0 | exact ne3_0) (ko hk (RL_st hbn hR1 hS hH hRR hT)))⟩)⟩
theorem t_law_7 (h : LwR c sv dn ds hn hc hK rP rL tL tn mg mkept mpast mreport mtext mhasKept mpasts mreports mlength) (hc5 : c < 512) (hi : i = nI I) (hI : I + 6 ≤ L) (hL : L < 2 ^ 31) (hk : KO (c + 1) k) : wp_law_7 L xs sv dn dt ds hn hc hK rP rL tL tC tn tp tc mg mkept mspare mtrial mpast mreport mpart mcome morder mtext mtold mahead mhasKept mpasts mreports mthrown mordering mdetail mlength mspot mnumber mtolds vo vd i k := by
  obtain ⟨b, n, hbn, hR, hS, hH, hRR, hT⟩ := h
  have hR1 := Rel_up hR (Nat.le_succ b)
  unfold wp_law_7
  obtain ⟨hr, hc1, hm1⟩ := u_seed (p0 := xs (i + 1).toNatClampNeg) hR hH
  exact ⟨vI hi hI hL 1, hc1 _ ⟨vI hi hI hL 1, hm1 _ (finQ (ko hk (RL_st hbn (Rel_up hr (Nat.le_succ b)) hS (HR_keep hH hR) hRR hT)))⟩⟩
theorem t_law_8 (h : LwR c sv dn ds hn hc hK rP rL tL tn mg mkept mpast mreport mtext mhasKept mpasts mreports mlength) (hc5 : c < 512) (hi : i = nI I) (hI : I + 6 ≤ L) (hL : L < 2 ^ 31) (hk : KO (c + 1) k) : wp_law_8 L xs sv dn dt ds hn hc hK rP rL tL tC tn tp tc mg mkept mspare mtrial mpast mreport mpart mcome morder mtext mtold mahead mhasKept mpasts mreports mthrown mordering mdetail mlength mspot mnumber mtolds vo vd i k := by
  obtain ⟨b, n, hbn, hR, hS, hH, hRR, hT⟩ := h
  have hR1 := Rel_up hR (Nat.le_succ b)
  unfold wp_law_8 wp_L_feed
  rcases u_feed (p0 := xs (i + 1).toNatClampNeg) (p1 := xs (i + 2).toNatClampNeg) (by omega) hR hH with ⟨w0, w1, w2, hr, hc1, hm1⟩ | ⟨hc1, hm1⟩ | ⟨hc1, hm1⟩ | ⟨hc1, hm1⟩
  · exact ⟨vI hi hI hL 1, vI hi hI hL 2, hc1 _ _ ⟨vpz, vI hi hI hL 1, vI hi hI hL 2, hm1 _ (fin0 (vo := vo) (ko hk (RL_st hbn hr hS (HR_keep hH hR) hRR hT)))⟩⟩
  · exact ⟨vI hi hI hL 1, vI hi hI hL 2, hc1 _ _ (Or.inl ⟨rfl, vI hi hI hL 1, vI hi hI hL 2, hm1 _ (finE (by first | exact ne1_0 | exact ne2_0 | exact ne3_0) (ko hk (RL_st hbn hR1 hS hH hRR hT)))⟩)⟩
  · exact ⟨vI hi hI hL 1, vI hi hI hL 2, hc1 _ _ (Or.inr (Or.inl ⟨rfl, vI hi hI hL 1, vI hi hI hL 2, hm1 _ (finE (by first | exact ne1_0 | exact ne2_0 | exact ne3_0) (ko hk (RL_st hbn hR1 hS hH hRR hT)))⟩))⟩
  · exact ⟨vI hi hI hL 1, vI hi hI hL 2, hc1 _ _ (Or.inr (Or.inr ⟨rfl, vI hi hI hL 1, vI hi hI hL 2, hm1 _ (finE (by first | exact ne1_0 | exact ne2_0 | exact ne3_0) (ko hk (RL_st hbn hR1 hS hH hRR hT)))⟩))⟩
theorem t_law_9 (h : LwR c sv dn ds hn hc hK rP rL tL tn mg mkept mpast mreport mtext mhasKept mpasts mreports mlength) (hc5 : c < 512) (hi : i = nI I) (hI : I + 6 ≤ L) (hL : L < 2 ^ 31) (hk : KO (c + 1) k) : wp_law_9 L xs sv dn dt ds hn hc hK rP rL tL tC tn tp tc mg mkept mspare mtrial mpast mreport mpart mcome morder mtext mtold mahead mhasKept mpasts mreports mthrown mordering mdetail mlength mspot mnumber mtolds vo vd i k := by
  obtain ⟨b, n, hbn, hR, hS, hH, hRR, hT⟩ := h
  have hR1 := Rel_up hR (Nat.le_succ b)
  unfold wp_law_9 wp_L_run
  rcases u_run (mtrial := mtrial) (mpart := mpart) (mcome := mcome) (p0 := xs (i + 1).toNatClampNeg) (by omega) hR hH with ⟨v, g2, hc1, hm1⟩ | ⟨hc1, hm1⟩ | ⟨hc1, hm1⟩
  · exact ⟨vI hi hI hL 1, hc1 _ _ (fun M P N bc z pc R hr => ⟨vpz, vI hi hI hL 1, hm1 _ (fun _ _ _ => fin0 (vo := vo) (ko hk (RL_st hbn (Rel_up (Rel_any hr) (Nat.le_succ b)) hS (HR_keep hH hR) hRR hT)))⟩)⟩
  · exact ⟨vI hi hI hL 1, hc1 _ _ (Or.inl ⟨rfl, vI hi hI hL 1, hm1 _ (finE (by first | exact ne1_0 | exact ne2_0 | exact ne3_0) (ko hk (RL_st hbn hR1 hS hH hRR hT)))⟩)⟩
  · exact ⟨vI hi hI hL 1, hc1 _ _ (Or.inr ⟨rfl, vI hi hI hL 1, hm1 _ (finE (by first | exact ne1_0 | exact ne2_0 | exact ne3_0) (ko hk (RL_st hbn hR1 hS hH hRR hT)))⟩)⟩
theorem t_law_16 (h : LwR c sv dn ds hn hc hK rP rL tL tn mg mkept mpast mreport mtext mhasKept mpasts mreports mlength) (hc5 : c < 512) (hi : i = nI I) (hI : I + 6 ≤ L) (hL : L < 2 ^ 31) (hk : KO (c + 1) k) : wp_law_16 L xs sv dn dt ds hn hc hK rP rL tL tC tn tp tc mg mkept mspare mtrial mpast mreport mpart mcome morder mtext mtold mahead mhasKept mpasts mreports mthrown mordering mdetail mlength mspot mnumber mtolds vo vd i k := by
  obtain ⟨b, n, hbn, hR, hS, hH, hRR, hT⟩ := h
  have hR1 := Rel_up hR (Nat.le_succ b)
  unfold wp_law_16 wp_L_contract
  rcases u_con (p0 := xs (i + 1).toNatClampNeg) (p1 := xs (i + 2).toNatClampNeg) (p2 := xs (i + 3).toNatClampNeg) (p3 := xs (i + 4).toNatClampNeg) hR hH with ⟨w0, w1, w2, w3, hr, hc1, hm1⟩ | ⟨hc1, hm1⟩ | ⟨hc1, hm1⟩ | ⟨hc1, hm1⟩
  · exact ⟨vI hi hI hL 1, vI hi hI hL 2, vI hi hI hL 3, vI hi hI hL 4, hc1 _ _ ⟨vpz, vI hi hI hL 1, vI hi hI hL 2, vI hi hI hL 3, vI hi hI hL 4, hm1 _ (fin0 (vo := vo) (ko hk (RL_st hbn (Rel_up hr (Nat.le_succ b)) hS (HR_keep hH hR) hRR hT)))⟩⟩
  · exact ⟨vI hi hI hL 1, vI hi hI hL 2, vI hi hI hL 3, vI hi hI hL 4, hc1 _ _ (Or.inl ⟨rfl, vI hi hI hL 1, vI hi hI hL 2, vI hi hI hL 3, vI hi hI hL 4, hm1 _ (finE (by first | exact ne1_0 | exact ne2_0 | exact ne3_0) (ko hk (RL_st hbn hR1 hS hH hRR hT)))⟩)⟩
  · exact ⟨vI hi hI hL 1, vI hi hI hL 2, vI hi hI hL 3, vI hi hI hL 4, hc1 _ _ (Or.inr (Or.inl ⟨rfl, vI hi hI hL 1, vI hi hI hL 2, vI hi hI hL 3, vI hi hI hL 4, hm1 _ (finE (by first | exact ne1_0 | exact ne2_0 | exact ne3_0) (ko hk (RL_st hbn hR1 hS hH hRR hT)))⟩))⟩
  · exact ⟨vI hi hI hL 1, vI hi hI hL 2, vI hi hI hL 3, vI hi hI hL 4, hc1 _ _ (Or.inr (Or.inr ⟨rfl, vI hi hI hL 1, vI hi hI hL 2, vI hi hI hL 3, vI hi hI hL 4, hm1 _ (finE (by first | exact ne1_0 | exact ne2_0 | exact ne3_0) (ko hk (RL_st hbn hR1 hS hH hRR hT)))⟩))⟩
end LB
