theorem yok_X9_kilos : yOk yX9_kilos 2 := by decide +kernel
theorem yok_X9_isBale : yOk yX9_isBale 1 := by decide +kernel
theorem yok_X9_kilosOf : yOk yX9_kilosOf 1 := by decide +kernel
theorem yok_X9_pure : yOk yX9_pure 1 := by decide +kernel
theorem yok_X9_bale : yOk yX9_bale 2 := by decide +kernel
theorem yok_X9_isAhead : yOk yX9_isAhead 2 := by decide +kernel
theorem yok_X9_orders : yOk yX9_orders 0 := by decide +kernel
theorem yok_X9_ordered : yOk yX9_ordered 1 := by decide +kernel
theorem yok_X9_stock : yOk yX9_stock 2 := by decide +kernel
theorem yok_X9_againstContract : yOk yX9_againstContract 4 := by decide +kernel
theorem yok_X9_contracts : yOk yX9_contracts 4 := by decide +kernel
theorem yok_X9_contract : yOk yX9_contract 4 := by decide +kernel
theorem yok_X9_contractOf : yOk yX9_contractOf 2 := by decide +kernel
theorem yok_X9_isFor : yOk yX9_isFor 2 := by decide +kernel
theorem yok_X9_reaches : yOk yX9_reaches 2 := by decide +kernel
theorem yok_X9_suits : yOk yX9_suits 2 := by decide +kernel
theorem yok_X9_isBetter : yOk yX9_isBetter 2 := by decide +kernel
theorem yok_X9_bestFor : yOk yX9_bestFor 1 := by decide +kernel
theorem yok_X9_refuses : yOk yX9_refuses 2 := by decide +kernel
theorem yok_X9_against : yOk yX9_against 1 := by decide +kernel
theorem yok_X9_sells : yOk yX9_sells 1 := by decide +kernel
theorem yok_X9_reports : yOk yX9_reports 3 := by decide +kernel
theorem yok_X9_sell : yOk yX9_sell 1 := by decide +kernel
theorem yok_X9_sellAll : yOk yX9_sellAll 0 := by decide +kernel
theorem yok_X9_wouldSell : yOk yX9_wouldSell 1 := by decide +kernel
theorem yok_X9_report : yOk yX9_report 2 := by decide +kernel
theorem yok_X9_balesIn : yOk yX9_balesIn 1 := by decide +kernel
theorem yok_X9_bunkers : yOk yX9_bunkers 0 := by decide +kernel
theorem yok_X9_account : yOk yX9_account 1 := by decide +kernel
theorem yok_X9_purity : yOk yX9_purity 0 := by decide +kernel
theorem yok_X9_wasted : yOk yX9_wasted 1 := by decide +kernel
def wp_X9_kilos (mg : XRow) (p0 : Int32) (p1 : Int32) (post : (Int32 × Int32) → Prop) : Prop := wp_X9_isMachine mg p0 (fun u1 : Bool => (u1 = true → (wp_X9_in p1 (-1) 4 (fun u2 : Bool => (u2 = true → ((p0 = 10 → ((0 ≤ p1 → (vp_in (11 + p1) 672 ∧ (post (mg (11 + p1).toNatClampNeg, 0)))) ∧ (¬ 0 ≤ p1 → (wp_X9_sum mg 11 (fun u6 : Int32 => post (u6, 0)))))) ∧ (¬ p0 = 10 → ((p0 = 11 → ((0 ≤ p1 → (vp_in (16 + p1) 672 ∧ (post (mg (16 + p1).toNatClampNeg, 0)))) ∧ (¬ 0 ≤ p1 → (wp_X9_sum mg 16 (fun u5 : Int32 => post (u5, 0)))))) ∧ (¬ p0 = 11 → (wp_X9_machineAt p0 5 (fun u3 : Int32 => (0 ≤ p1 → (vp_in (u3 + p1) 672 ∧ (post (mg (u3 + p1).toNatClampNeg, 0)))) ∧ (¬ 0 ≤ p1 → (wp_X9_sum mg u3 (fun u4 : Int32 => post (u4, 0))))))))))) ∧ (u2 = false → (post (0, 2)))))) ∧ (u1 = false → (wp_X9_in p0 10 11 (fun u7 : Bool => (u7 = true → (wp_X9_in p1 (-1) 4 (fun u8 : Bool => (u8 = true → ((p0 = 10 → ((0 ≤ p1 → (vp_in (11 + p1) 672 ∧ (post (mg (11 + p1).toNatClampNeg, 0)))) ∧ (¬ 0 ≤ p1 → (wp_X9_sum mg 11 (fun u12 : Int32 => post (u12, 0)))))) ∧ (¬ p0 = 10 → ((p0 = 11 → ((0 ≤ p1 → (vp_in (16 + p1) 672 ∧ (post (mg (16 + p1).toNatClampNeg, 0)))) ∧ (¬ 0 ≤ p1 → (wp_X9_sum mg 16 (fun u11 : Int32 => post (u11, 0)))))) ∧ (¬ p0 = 11 → (wp_X9_machineAt p0 5 (fun u9 : Int32 => (0 ≤ p1 → (vp_in (u9 + p1) 672 ∧ (post (mg (u9 + p1).toNatClampNeg, 0)))) ∧ (¬ 0 ≤ p1 → (wp_X9_sum mg u9 (fun u10 : Int32 => post (u10, 0))))))))))) ∧ (u8 = false → (post (0, 2)))))) ∧ (u7 = false → (post (0, 1)))))))
theorem in_X9_kilos_X9 : ∀ w ∈ u_ws RX9 TX9 22, w ∈ wsX9_kilos := by decide +kernel
set_option maxRecDepth 100000 in
set_option maxHeartbeats 4000000 in
theorem c_X9_kilos (l : Launch) (D : va_G) (cy : Nat → ClassId) (sd : xSd) (A : Nat → Nat) (mg : XRow) (mkept : XRow) (mspare : XRow) (mtrial : XRow) (mpast : XRow) (mreport : XRow) (mpart : XRow) (mcome : XRow) (morder : XRow) (mtext : XRow) (mtold : XRow) (mahead : XRow) (mhasKept : Int32) (mpasts : Int32) (mreports : Int32) (mthrown : Int32) (mordering : Int32) (mdetail : Int32) (mlength : Int32) (mspot : Int32) (mnumber : Int32) (mtolds : Int32) (p0 : Int32) (p1 : Int32) {post : (Int32 × Int32) → Prop} (hw : wp_X9_kilos mg p0 p1 post) : Ctr l D (xTys cy) sd yX9_kilos wsX9_kilos ({ frames := 2, cells := 0, slots := 0, locals := 43 } : Room) [.ref (A 0), .int p0, .int p1] (fun u : Int32 × Int32 => some (.int u.1)) [((A 0), .inr (10, [.ref (A 1), .ref (A 2), .ref (A 3), .ref (A 4), .int mhasKept, .ref (A 5), .int mpasts, .ref (A 6), .int mreports, .int mthrown, .ref (A 7), .ref (A 8), .ref (A 9), .int mordering, .int mdetail, .ref (A 10), .int mlength, .int mspot, .int mnumber, .ref (A 11), .int mtolds, .ref (A 12)])), ((A 1), .inl (cy 0, 672, .inl mg)), ((A 2), .inl (cy 0, 672, .inl mkept)), ((A 3), .inl (cy 0, 672, .inl mspare)), ((A 4), .inl (cy 0, 672, .inl mtrial)), ((A 5), .inl (cy 0, 5376, .inl mpast)), ((A 6), .inl (cy 0, 6, .inl mreport)), ((A 7), .inl (cy 0, 5, .inl mpart)), ((A 8), .inl (cy 0, 5, .inl mcome)), ((A 9), .inl (cy 0, 60, .inl morder)), ((A 10), .inl (cy 0, 80, .inl mtext)), ((A 11), .inl (cy 0, 200, .inl mtold)), ((A 12), .inl (cy 0, 672, .inl mahead))] (fun u => [((A 0), .inr (10, [.ref (A 1), .ref (A 2), .ref (A 3), .ref (A 4), .int mhasKept, .ref (A 5), .int mpasts, .ref (A 6), .int mreports, .int u.2, .ref (A 7), .ref (A 8), .ref (A 9), .int mordering, .int mdetail, .ref (A 10), .int mlength, .int mspot, .int mnumber, .ref (A 11), .int mtolds, .ref (A 12)])), ((A 1), .inl (cy 0, 672, .inl mg)), ((A 2), .inl (cy 0, 672, .inl mkept)), ((A 3), .inl (cy 0, 672, .inl mspare)), ((A 4), .inl (cy 0, 672, .inl mtrial)), ((A 5), .inl (cy 0, 5376, .inl mpast)), ((A 6), .inl (cy 0, 6, .inl mreport)), ((A 7), .inl (cy 0, 5, .inl mpart)), ((A 8), .inl (cy 0, 5, .inl mcome)), ((A 9), .inl (cy 0, 60, .inl morder)), ((A 10), .inl (cy 0, 80, .inl mtext)), ((A 11), .inl (cy 0, 200, .inl mtold)), ((A 12), .inl (cy 0, 672, .inl mahead))]) post := by
  refine Ctr.of (cc := cX9_kilos) (maxL := 4) (ret := (some .int)) (lv0 := [(0, .ref (A 0)), (1, .int p0), (2, .int p1)]) (by decide) rfl (Nat.le_of_ble_eq_true rfl) rfl ?_
  intro X El hR Er Enm ED E En K
  have K : Cx X cX9_kilos RX9 wsX9_kilos (xTys cy) sd := K
  have E : X.2.2.2.2.2.2.2.2.2.2.1 = xMQ X (fun u : Int32 × Int32 => some (.int u.1)) post (fun u => [((A 0), .inr (10, [.ref (A 1), .ref (A 2), .ref (A 3), .ref (A 4), .int mhasKept, .ref (A 5), .int mpasts, .ref (A 6), .int mreports, .int u.2, .ref (A 7), .ref (A 8), .ref (A 9), .int mordering, .int mdetail, .ref (A 10), .int mlength, .int mspot, .int mnumber, .ref (A 11), .int mtolds, .ref (A 12)])), ((A 1), .inl (cy 0, 672, .inl mg)), ((A 2), .inl (cy 0, 672, .inl mkept)), ((A 3), .inl (cy 0, 672, .inl mspare)), ((A 4), .inl (cy 0, 672, .inl mtrial)), ((A 5), .inl (cy 0, 5376, .inl mpast)), ((A 6), .inl (cy 0, 6, .inl mreport)), ((A 7), .inl (cy 0, 5, .inl mpart)), ((A 8), .inl (cy 0, 5, .inl mcome)), ((A 9), .inl (cy 0, 60, .inl morder)), ((A 10), .inl (cy 0, 80, .inl mtext)), ((A 11), .inl (cy 0, 200, .inl mtold)), ((A 12), .inl (cy 0, 672, .inl mahead))]) 0 0 := E
  unfold wp_X9_kilos at hw
  refine g_aload_n K 0 dX9_kilos_0 rfl ?_
  refine g_aload_n K 0 dX9_kilos_1 rfl ?_
  refine g_iload_n K 1 dX9_kilos_2 rfl ?_
  refine g_callVr (st' := fun u1 => [.int (bI u1), .ref (A 0)]) K hR [.int p0] [.ref (A 0)] 0 rfl rfl (c_X9_isMachine X.2.1 (gxD X) cy sd A mg mkept mspare mtrial mpast mreport mpart mcome morder mtext mtold mahead mhasKept mpasts mreports mthrown mordering mdetail mlength mspot mnumber mtolds p0 hw) gX9_kilos_X9_isMachine rfl yok_X9_isMachine rfl rfl (by decide) rfl (Nat.le_of_ble_eq_true rfl) dX9_kilos_3 [0, 1, 2, 3, 4, 5, 6, 7, 8, 9, 10, 11, 12] rfl (by decide) (fun _ => rfl) ⟨rfl, rfl⟩ (fun u1 hw => ?_)
  refine g_ifb_ne (tgt := 24) K dX9_kilos_6 (by decide) (fun hc => ?_) (fun hc => ?_)
  · replace hw := hw.1 hc
    refine g_iload_n K 2 dX9_kilos_24 rfl ?_
    refine g_iconst (v := (-1)) K dX9_kilos_25 rfl ?_
    refine g_iconst (v := 4) K dX9_kilos_26 rfl ?_
    refine g_callSr (st' := fun u2 => [.int (bI u2), .ref (A 0)]) K hR [.int p1, .int (-1), .int 4] [.ref (A 0)] (c_X9_in X.2.1 (gxD X) cy sd p1 (-1) 4 hw) gX9_kilos_X9_in rfl yok_X9_in rfl (by decide) rfl (Nat.le_of_ble_eq_true rfl) dX9_kilos_27 [] rfl (by decide) (fun _ => rfl) ⟨rfl, rfl⟩ (fun u2 hw => ?_)
    refine g_ifb_eq (tgt := 37) K dX9_kilos_30 (by decide) (fun hc => ?_) (fun hc => ?_)
    · replace hw := hw.2 hc
      refine g_iconst (v := 2) K dX9_kilos_37 rfl ?_
      refine g_put (ty := .int) (ws' := [((A 0), .inr (10, [.ref (A 1), .ref (A 2), .ref (A 3), .ref (A 4), .int mhasKept, .ref (A 5), .int mpasts, .ref (A 6), .int mreports, .int 2, .ref (A 7), .ref (A 8), .ref (A 9), .int mordering, .int mdetail, .ref (A 10), .int mlength, .int mspot, .int mnumber, .ref (A 11), .int mtolds, .ref (A 12)])), ((A 1), .inl (cy 0, 672, .inl mg)), ((A 2), .inl (cy 0, 672, .inl mkept)), ((A 3), .inl (cy 0, 672, .inl mspare)), ((A 4), .inl (cy 0, 672, .inl mtrial)), ((A 5), .inl (cy 0, 5376, .inl mpast)), ((A 6), .inl (cy 0, 6, .inl mreport)), ((A 7), .inl (cy 0, 5, .inl mpart)), ((A 8), .inl (cy 0, 5, .inl mcome)), ((A 9), .inl (cy 0, 60, .inl morder)), ((A 10), .inl (cy 0, 80, .inl mtext)), ((A 11), .inl (cy 0, 200, .inl mtold)), ((A 12), .inl (cy 0, 672, .inl mahead))]) K (C := RX9) (T := TX9) (N := 22) 0 9 in_X9_kilos_X9 tyX9 tyX9_ok nmX9 (by decide +kernel) rfl rfl (by decide) rfl (by decide +kernel) rfl rfl (Nat.le_of_ble_eq_true rfl) rfl dX9_kilos_38 ?_
      refine g_aload_n K 0 dX9_kilos_41 rfl ?_
      refine g_get K (C := RX9) (T := TX9) (N := 22) 0 9 in_X9_kilos_X9 (by decide +kernel) rfl rfl (by decide) rfl dX9_kilos_42 ?_
      refine g_if_le (tgt := 50) K dX9_kilos_45 (by decide) (fun hc => absurd hc (by decide)) (fun _ => ?_)
      refine g_iconst (v := 0) K dX9_kilos_48 rfl ?_
      exact g_zret K E Er (0, 2) hw rfl rfl rfl (Nat.le_refl _) (Nat.le_refl _) dX9_kilos_49
    · replace hw := hw.1 hc
      refine g_iconst (v := 0) K dX9_kilos_33 rfl ?_
      refine g_goto (tgt := 38) K dX9_kilos_34 (by decide) ?_
      refine g_put (ty := .int) (ws' := [((A 0), .inr (10, [.ref (A 1), .ref (A 2), .ref (A 3), .ref (A 4), .int mhasKept, .ref (A 5), .int mpasts, .ref (A 6), .int mreports, .int 0, .ref (A 7), .ref (A 8), .ref (A 9), .int mordering, .int mdetail, .ref (A 10), .int mlength, .int mspot, .int mnumber, .ref (A 11), .int mtolds, .ref (A 12)])), ((A 1), .inl (cy 0, 672, .inl mg)), ((A 2), .inl (cy 0, 672, .inl mkept)), ((A 3), .inl (cy 0, 672, .inl mspare)), ((A 4), .inl (cy 0, 672, .inl mtrial)), ((A 5), .inl (cy 0, 5376, .inl mpast)), ((A 6), .inl (cy 0, 6, .inl mreport)), ((A 7), .inl (cy 0, 5, .inl mpart)), ((A 8), .inl (cy 0, 5, .inl mcome)), ((A 9), .inl (cy 0, 60, .inl morder)), ((A 10), .inl (cy 0, 80, .inl mtext)), ((A 11), .inl (cy 0, 200, .inl mtold)), ((A 12), .inl (cy 0, 672, .inl mahead))]) K (C := RX9) (T := TX9) (N := 22) 0 9 in_X9_kilos_X9 tyX9 tyX9_ok nmX9 (by decide +kernel) rfl rfl (by decide) rfl (by decide +kernel) rfl rfl (Nat.le_of_ble_eq_true rfl) rfl dX9_kilos_38 ?_
      refine g_aload_n K 0 dX9_kilos_41 rfl ?_
      refine g_get K (C := RX9) (T := TX9) (N := 22) 0 9 in_X9_kilos_X9 (by decide +kernel) rfl rfl (by decide) rfl dX9_kilos_42 ?_
      refine g_if_le (tgt := 50) K dX9_kilos_45 (by decide) (fun _ => ?_) (fun hc => absurd (by decide) hc)
      refine g_iload_n K 1 dX9_kilos_50 rfl ?_
      refine g_bipush (v := 10) K dX9_kilos_51 rfl ?_
      refine g_icmp_ne (tgt := 61) K dX9_kilos_53 (by decide) (fun hc => ?_) (fun hc => ?_)
      · replace hw := hw.2 hc
        refine g_iload_n K 1 dX9_kilos_61 rfl ?_
        refine g_bipush (v := 11) K dX9_kilos_62 rfl ?_
        refine g_icmp_ne (tgt := 72) K dX9_kilos_64 (by decide) (fun hc => ?_) (fun hc => ?_)
        · replace hw := hw.2 hc
          refine g_iload_n K 1 dX9_kilos_72 rfl ?_
          refine g_iconst (v := 5) K dX9_kilos_73 rfl ?_
          refine g_callSr (st' := fun u3 => [.int u3]) K hR [.int p0, .int 5] [] (c_X9_machineAt X.2.1 (gxD X) cy sd p0 5 hw) gX9_kilos_X9_machineAt rfl yok_X9_machineAt rfl (by decide) rfl (Nat.le_of_ble_eq_true rfl) dX9_kilos_74 [] rfl (by decide) (fun _ => rfl) ⟨rfl, rfl⟩ (fun u3 hw => ?_)
          refine g_istore_n (lv' := [(3, .int u3), (0, .ref (A 0)), (1, .int p0), (2, .int p1)]) K dX9_kilos_77 rfl (by rw [En]; decide) rfl ?_
          refine g_iload_n K 3 dX9_kilos_78 rfl ?_
          refine g_if_ge (tgt := 90) K dX9_kilos_79 (by decide) (fun hc => ?_) (fun hc => ?_)
          · replace hw := hw.1 hc
            refine g_aload_n K 1 dX9_kilos_90 rfl ?_
            refine g_get K (C := RX9) (T := TX9) (N := 22) 0 0 in_X9_kilos_X9 (by decide +kernel) rfl rfl (by decide) rfl dX9_kilos_91 ?_
            refine g_iload_n K 0 dX9_kilos_94 rfl ?_
            refine g_iload_n K 3 dX9_kilos_95 rfl ?_
            refine g_iadd K dX9_kilos_96 ?_
            refine g_iald K 1 0 rfl rfl hw.1 dX9_kilos_97 ?_
            replace hw := hw.2
            exact g_zret K E Er (mg (u3 + p1).toNatClampNeg, 0) hw rfl rfl rfl (Nat.le_refl _) (Nat.le_refl _) dX9_kilos_98
          · replace hw := hw.2 hc
            refine g_aload_n K 1 dX9_kilos_82 rfl ?_
            refine g_iload_n K 0 dX9_kilos_83 rfl ?_
            refine g_callVr (st' := fun u4 => [.int u4]) K hR [.int u3] [] 0 rfl rfl (c_X9_sum X.2.1 (gxD X) cy sd A mg mkept mspare mtrial mpast mreport mpart mcome morder mtext mtold mahead mhasKept mpasts mreports 0 mordering mdetail mlength mspot mnumber mtolds u3 hw) gX9_kilos_X9_sum rfl yok_X9_sum rfl rfl (by decide) rfl (Nat.le_of_ble_eq_true rfl) dX9_kilos_84 [0, 1, 2, 3, 4, 5, 6, 7, 8, 9, 10, 11, 12] rfl (by decide) (fun _ => rfl) ⟨rfl, rfl⟩ (fun u4 hw => ?_)
            refine g_goto (tgt := 98) K dX9_kilos_87 (by decide) ?_
            exact g_zret K E Er (u4, 0) hw rfl rfl rfl (Nat.le_refl _) (Nat.le_refl _) dX9_kilos_98
        · replace hw := hw.1 hc
          refine g_bipush (v := 16) K dX9_kilos_67 rfl ?_
          refine g_goto (tgt := 77) K dX9_kilos_69 (by decide) ?_
          refine g_istore_n (lv' := [(3, .int 16), (0, .ref (A 0)), (1, .int p0), (2, .int p1)]) K dX9_kilos_77 rfl (by rw [En]; decide) rfl ?_
          refine g_iload_n K 3 dX9_kilos_78 rfl ?_
          refine g_if_ge (tgt := 90) K dX9_kilos_79 (by decide) (fun hc => ?_) (fun hc => ?_)
          · replace hw := hw.1 hc
            refine g_aload_n K 1 dX9_kilos_90 rfl ?_
            refine g_get K (C := RX9) (T := TX9) (N := 22) 0 0 in_X9_kilos_X9 (by decide +kernel) rfl rfl (by decide) rfl dX9_kilos_91 ?_
            refine g_iload_n K 0 dX9_kilos_94 rfl ?_
            refine g_iload_n K 3 dX9_kilos_95 rfl ?_
            refine g_iadd K dX9_kilos_96 ?_
            refine g_iald K 1 0 rfl rfl hw.1 dX9_kilos_97 ?_
            replace hw := hw.2
            exact g_zret K E Er (mg (16 + p1).toNatClampNeg, 0) hw rfl rfl rfl (Nat.le_refl _) (Nat.le_refl _) dX9_kilos_98
          · replace hw := hw.2 hc
            refine g_aload_n K 1 dX9_kilos_82 rfl ?_
            refine g_iload_n K 0 dX9_kilos_83 rfl ?_
            refine g_callVr (st' := fun u5 => [.int u5]) K hR [.int 16] [] 0 rfl rfl (c_X9_sum X.2.1 (gxD X) cy sd A mg mkept mspare mtrial mpast mreport mpart mcome morder mtext mtold mahead mhasKept mpasts mreports 0 mordering mdetail mlength mspot mnumber mtolds 16 hw) gX9_kilos_X9_sum rfl yok_X9_sum rfl rfl (by decide) rfl (Nat.le_of_ble_eq_true rfl) dX9_kilos_84 [0, 1, 2, 3, 4, 5, 6, 7, 8, 9, 10, 11, 12] rfl (by decide) (fun _ => rfl) ⟨rfl, rfl⟩ (fun u5 hw => ?_)
            refine g_goto (tgt := 98) K dX9_kilos_87 (by decide) ?_
            exact g_zret K E Er (u5, 0) hw rfl rfl rfl (Nat.le_refl _) (Nat.le_refl _) dX9_kilos_98
      · replace hw := hw.1 hc
        refine g_bipush (v := 11) K dX9_kilos_56 rfl ?_
        refine g_goto (tgt := 77) K dX9_kilos_58 (by decide) ?_
        refine g_istore_n (lv' := [(3, .int 11), (0, .ref (A 0)), (1, .int p0), (2, .int p1)]) K dX9_kilos_77 rfl (by rw [En]; decide) rfl ?_
        refine g_iload_n K 3 dX9_kilos_78 rfl ?_
        refine g_if_ge (tgt := 90) K dX9_kilos_79 (by decide) (fun hc => ?_) (fun hc => ?_)
        · replace hw := hw.1 hc
          refine g_aload_n K 1 dX9_kilos_90 rfl ?_
          refine g_get K (C := RX9) (T := TX9) (N := 22) 0 0 in_X9_kilos_X9 (by decide +kernel) rfl rfl (by decide) rfl dX9_kilos_91 ?_
          refine g_iload_n K 0 dX9_kilos_94 rfl ?_
          refine g_iload_n K 3 dX9_kilos_95 rfl ?_
          refine g_iadd K dX9_kilos_96 ?_
          refine g_iald K 1 0 rfl rfl hw.1 dX9_kilos_97 ?_
          replace hw := hw.2
          exact g_zret K E Er (mg (11 + p1).toNatClampNeg, 0) hw rfl rfl rfl (Nat.le_refl _) (Nat.le_refl _) dX9_kilos_98
        · replace hw := hw.2 hc
          refine g_aload_n K 1 dX9_kilos_82 rfl ?_
          refine g_iload_n K 0 dX9_kilos_83 rfl ?_
          refine g_callVr (st' := fun u6 => [.int u6]) K hR [.int 11] [] 0 rfl rfl (c_X9_sum X.2.1 (gxD X) cy sd A mg mkept mspare mtrial mpast mreport mpart mcome morder mtext mtold mahead mhasKept mpasts mreports 0 mordering mdetail mlength mspot mnumber mtolds 11 hw) gX9_kilos_X9_sum rfl yok_X9_sum rfl rfl (by decide) rfl (Nat.le_of_ble_eq_true rfl) dX9_kilos_84 [0, 1, 2, 3, 4, 5, 6, 7, 8, 9, 10, 11, 12] rfl (by decide) (fun _ => rfl) ⟨rfl, rfl⟩ (fun u6 hw => ?_)
          refine g_goto (tgt := 98) K dX9_kilos_87 (by decide) ?_
          exact g_zret K E Er (u6, 0) hw rfl rfl rfl (Nat.le_refl _) (Nat.le_refl _) dX9_kilos_98
  · replace hw := hw.2 hc
    refine g_iload_n K 1 dX9_kilos_9 rfl ?_
    refine g_bipush (v := 10) K dX9_kilos_10 rfl ?_
    refine g_bipush (v := 11) K dX9_kilos_12 rfl ?_
    refine g_callSr (st' := fun u7 => [.int (bI u7), .ref (A 0)]) K hR [.int p0, .int 10, .int 11] [.ref (A 0)] (c_X9_in X.2.1 (gxD X) cy sd p0 10 11 hw) gX9_kilos_X9_in rfl yok_X9_in rfl (by decide) rfl (Nat.le_of_ble_eq_true rfl) dX9_kilos_14 [] rfl (by decide) (fun _ => rfl) ⟨rfl, rfl⟩ (fun u7 hw => ?_)
    refine g_ifb_ne (tgt := 24) K dX9_kilos_17 (by decide) (fun hc => ?_) (fun hc => ?_)
    · replace hw := hw.1 hc
      refine g_iload_n K 2 dX9_kilos_24 rfl ?_
      refine g_iconst (v := (-1)) K dX9_kilos_25 rfl ?_
      refine g_iconst (v := 4) K dX9_kilos_26 rfl ?_
      refine g_callSr (st' := fun u8 => [.int (bI u8), .ref (A 0)]) K hR [.int p1, .int (-1), .int 4] [.ref (A 0)] (c_X9_in X.2.1 (gxD X) cy sd p1 (-1) 4 hw) gX9_kilos_X9_in rfl yok_X9_in rfl (by decide) rfl (Nat.le_of_ble_eq_true rfl) dX9_kilos_27 [] rfl (by decide) (fun _ => rfl) ⟨rfl, rfl⟩ (fun u8 hw => ?_)
      refine g_ifb_eq (tgt := 37) K dX9_kilos_30 (by decide) (fun hc => ?_) (fun hc => ?_)
      · replace hw := hw.2 hc
        refine g_iconst (v := 2) K dX9_kilos_37 rfl ?_
        refine g_put (ty := .int) (ws' := [((A 0), .inr (10, [.ref (A 1), .ref (A 2), .ref (A 3), .ref (A 4), .int mhasKept, .ref (A 5), .int mpasts, .ref (A 6), .int mreports, .int 2, .ref (A 7), .ref (A 8), .ref (A 9), .int mordering, .int mdetail, .ref (A 10), .int mlength, .int mspot, .int mnumber, .ref (A 11), .int mtolds, .ref (A 12)])), ((A 1), .inl (cy 0, 672, .inl mg)), ((A 2), .inl (cy 0, 672, .inl mkept)), ((A 3), .inl (cy 0, 672, .inl mspare)), ((A 4), .inl (cy 0, 672, .inl mtrial)), ((A 5), .inl (cy 0, 5376, .inl mpast)), ((A 6), .inl (cy 0, 6, .inl mreport)), ((A 7), .inl (cy 0, 5, .inl mpart)), ((A 8), .inl (cy 0, 5, .inl mcome)), ((A 9), .inl (cy 0, 60, .inl morder)), ((A 10), .inl (cy 0, 80, .inl mtext)), ((A 11), .inl (cy 0, 200, .inl mtold)), ((A 12), .inl (cy 0, 672, .inl mahead))]) K (C := RX9) (T := TX9) (N := 22) 0 9 in_X9_kilos_X9 tyX9 tyX9_ok nmX9 (by decide +kernel) rfl rfl (by decide) rfl (by decide +kernel) rfl rfl (Nat.le_of_ble_eq_true rfl) rfl dX9_kilos_38 ?_
        refine g_aload_n K 0 dX9_kilos_41 rfl ?_
        refine g_get K (C := RX9) (T := TX9) (N := 22) 0 9 in_X9_kilos_X9 (by decide +kernel) rfl rfl (by decide) rfl dX9_kilos_42 ?_
        refine g_if_le (tgt := 50) K dX9_kilos_45 (by decide) (fun hc => absurd hc (by decide)) (fun _ => ?_)
        refine g_iconst (v := 0) K dX9_kilos_48 rfl ?_
        exact g_zret K E Er (0, 2) hw rfl rfl rfl (Nat.le_refl _) (Nat.le_refl _) dX9_kilos_49
      · replace hw := hw.1 hc
        refine g_iconst (v := 0) K dX9_kilos_33 rfl ?_
        refine g_goto (tgt := 38) K dX9_kilos_34 (by decide) ?_
        refine g_put (ty := .int) (ws' := [((A 0), .inr (10, [.ref (A 1), .ref (A 2), .ref (A 3), .ref (A 4), .int mhasKept, .ref (A 5), .int mpasts, .ref (A 6), .int mreports, .int 0, .ref (A 7), .ref (A 8), .ref (A 9), .int mordering, .int mdetail, .ref (A 10), .int mlength, .int mspot, .int mnumber, .ref (A 11), .int mtolds, .ref (A 12)])), ((A 1), .inl (cy 0, 672, .inl mg)), ((A 2), .inl (cy 0, 672, .inl mkept)), ((A 3), .inl (cy 0, 672, .inl mspare)), ((A 4), .inl (cy 0, 672, .inl mtrial)), ((A 5), .inl (cy 0, 5376, .inl mpast)), ((A 6), .inl (cy 0, 6, .inl mreport)), ((A 7), .inl (cy 0, 5, .inl mpart)), ((A 8), .inl (cy 0, 5, .inl mcome)), ((A 9), .inl (cy 0, 60, .inl morder)), ((A 10), .inl (cy 0, 80, .inl mtext)), ((A 11), .inl (cy 0, 200, .inl mtold)), ((A 12), .inl (cy 0, 672, .inl mahead))]) K (C := RX9) (T := TX9) (N := 22) 0 9 in_X9_kilos_X9 tyX9 tyX9_ok nmX9 (by decide +kernel) rfl rfl (by decide) rfl (by decide +kernel) rfl rfl (Nat.le_of_ble_eq_true rfl) rfl dX9_kilos_38 ?_
        refine g_aload_n K 0 dX9_kilos_41 rfl ?_
        refine g_get K (C := RX9) (T := TX9) (N := 22) 0 9 in_X9_kilos_X9 (by decide +kernel) rfl rfl (by decide) rfl dX9_kilos_42 ?_
        refine g_if_le (tgt := 50) K dX9_kilos_45 (by decide) (fun _ => ?_) (fun hc => absurd (by decide) hc)
        refine g_iload_n K 1 dX9_kilos_50 rfl ?_
        refine g_bipush (v := 10) K dX9_kilos_51 rfl ?_
        refine g_icmp_ne (tgt := 61) K dX9_kilos_53 (by decide) (fun hc => ?_) (fun hc => ?_)
        · replace hw := hw.2 hc
          refine g_iload_n K 1 dX9_kilos_61 rfl ?_
          refine g_bipush (v := 11) K dX9_kilos_62 rfl ?_
          refine g_icmp_ne (tgt := 72) K dX9_kilos_64 (by decide) (fun hc => ?_) (fun hc => ?_)
          · replace hw := hw.2 hc
            refine g_iload_n K 1 dX9_kilos_72 rfl ?_
            refine g_iconst (v := 5) K dX9_kilos_73 rfl ?_
            refine g_callSr (st' := fun u9 => [.int u9]) K hR [.int p0, .int 5] [] (c_X9_machineAt X.2.1 (gxD X) cy sd p0 5 hw) gX9_kilos_X9_machineAt rfl yok_X9_machineAt rfl (by decide) rfl (Nat.le_of_ble_eq_true rfl) dX9_kilos_74 [] rfl (by decide) (fun _ => rfl) ⟨rfl, rfl⟩ (fun u9 hw => ?_)
            refine g_istore_n (lv' := [(3, .int u9), (0, .ref (A 0)), (1, .int p0), (2, .int p1)]) K dX9_kilos_77 rfl (by rw [En]; decide) rfl ?_
            refine g_iload_n K 3 dX9_kilos_78 rfl ?_
            refine g_if_ge (tgt := 90) K dX9_kilos_79 (by decide) (fun hc => ?_) (fun hc => ?_)
            · replace hw := hw.1 hc
              refine g_aload_n K 1 dX9_kilos_90 rfl ?_
              refine g_get K (C := RX9) (T := TX9) (N := 22) 0 0 in_X9_kilos_X9 (by decide +kernel) rfl rfl (by decide) rfl dX9_kilos_91 ?_
              refine g_iload_n K 0 dX9_kilos_94 rfl ?_
              refine g_iload_n K 3 dX9_kilos_95 rfl ?_
              refine g_iadd K dX9_kilos_96 ?_
              refine g_iald K 1 0 rfl rfl hw.1 dX9_kilos_97 ?_
              replace hw := hw.2
              exact g_zret K E Er (mg (u9 + p1).toNatClampNeg, 0) hw rfl rfl rfl (Nat.le_refl _) (Nat.le_refl _) dX9_kilos_98
            · replace hw := hw.2 hc
              refine g_aload_n K 1 dX9_kilos_82 rfl ?_
              refine g_iload_n K 0 dX9_kilos_83 rfl ?_
              refine g_callVr (st' := fun u10 => [.int u10]) K hR [.int u9] [] 0 rfl rfl (c_X9_sum X.2.1 (gxD X) cy sd A mg mkept mspare mtrial mpast mreport mpart mcome morder mtext mtold mahead mhasKept mpasts mreports 0 mordering mdetail mlength mspot mnumber mtolds u9 hw) gX9_kilos_X9_sum rfl yok_X9_sum rfl rfl (by decide) rfl (Nat.le_of_ble_eq_true rfl) dX9_kilos_84 [0, 1, 2, 3, 4, 5, 6, 7, 8, 9, 10, 11, 12] rfl (by decide) (fun _ => rfl) ⟨rfl, rfl⟩ (fun u10 hw => ?_)
              refine g_goto (tgt := 98) K dX9_kilos_87 (by decide) ?_
              exact g_zret K E Er (u10, 0) hw rfl rfl rfl (Nat.le_refl _) (Nat.le_refl _) dX9_kilos_98
          · replace hw := hw.1 hc
            refine g_bipush (v := 16) K dX9_kilos_67 rfl ?_
            refine g_goto (tgt := 77) K dX9_kilos_69 (by decide) ?_
            refine g_istore_n (lv' := [(3, .int 16), (0, .ref (A 0)), (1, .int p0), (2, .int p1)]) K dX9_kilos_77 rfl (by rw [En]; decide) rfl ?_
            refine g_iload_n K 3 dX9_kilos_78 rfl ?_
            refine g_if_ge (tgt := 90) K dX9_kilos_79 (by decide) (fun hc => ?_) (fun hc => ?_)
            · replace hw := hw.1 hc
              refine g_aload_n K 1 dX9_kilos_90 rfl ?_
              refine g_get K (C := RX9) (T := TX9) (N := 22) 0 0 in_X9_kilos_X9 (by decide +kernel) rfl rfl (by decide) rfl dX9_kilos_91 ?_
              refine g_iload_n K 0 dX9_kilos_94 rfl ?_
              refine g_iload_n K 3 dX9_kilos_95 rfl ?_
              refine g_iadd K dX9_kilos_96 ?_
              refine g_iald K 1 0 rfl rfl hw.1 dX9_kilos_97 ?_
              replace hw := hw.2
              exact g_zret K E Er (mg (16 + p1).toNatClampNeg, 0) hw rfl rfl rfl (Nat.le_refl _) (Nat.le_refl _) dX9_kilos_98
            · replace hw := hw.2 hc
              refine g_aload_n K 1 dX9_kilos_82 rfl ?_
              refine g_iload_n K 0 dX9_kilos_83 rfl ?_
              refine g_callVr (st' := fun u11 => [.int u11]) K hR [.int 16] [] 0 rfl rfl (c_X9_sum X.2.1 (gxD X) cy sd A mg mkept mspare mtrial mpast mreport mpart mcome morder mtext mtold mahead mhasKept mpasts mreports 0 mordering mdetail mlength mspot mnumber mtolds 16 hw) gX9_kilos_X9_sum rfl yok_X9_sum rfl rfl (by decide) rfl (Nat.le_of_ble_eq_true rfl) dX9_kilos_84 [0, 1, 2, 3, 4, 5, 6, 7, 8, 9, 10, 11, 12] rfl (by decide) (fun _ => rfl) ⟨rfl, rfl⟩ (fun u11 hw => ?_)
              refine g_goto (tgt := 98) K dX9_kilos_87 (by decide) ?_
              exact g_zret K E Er (u11, 0) hw rfl rfl rfl (Nat.le_refl _) (Nat.le_refl _) dX9_kilos_98
        · replace hw := hw.1 hc
          refine g_bipush (v := 11) K dX9_kilos_56 rfl ?_
          refine g_goto (tgt := 77) K dX9_kilos_58 (by decide) ?_
          refine g_istore_n (lv' := [(3, .int 11), (0, .ref (A 0)), (1, .int p0), (2, .int p1)]) K dX9_kilos_77 rfl (by rw [En]; decide) rfl ?_
          refine g_iload_n K 3 dX9_kilos_78 rfl ?_
          refine g_if_ge (tgt := 90) K dX9_kilos_79 (by decide) (fun hc => ?_) (fun hc => ?_)
          · replace hw := hw.1 hc
            refine g_aload_n K 1 dX9_kilos_90 rfl ?_
            refine g_get K (C := RX9) (T := TX9) (N := 22) 0 0 in_X9_kilos_X9 (by decide +kernel) rfl rfl (by decide) rfl dX9_kilos_91 ?_
            refine g_iload_n K 0 dX9_kilos_94 rfl ?_
            refine g_iload_n K 3 dX9_kilos_95 rfl ?_
            refine g_iadd K dX9_kilos_96 ?_
            refine g_iald K 1 0 rfl rfl hw.1 dX9_kilos_97 ?_
            replace hw := hw.2
            exact g_zret K E Er (mg (11 + p1).toNatClampNeg, 0) hw rfl rfl rfl (Nat.le_refl _) (Nat.le_refl _) dX9_kilos_98
          · replace hw := hw.2 hc
            refine g_aload_n K 1 dX9_kilos_82 rfl ?_
            refine g_iload_n K 0 dX9_kilos_83 rfl ?_
            refine g_callVr (st' := fun u12 => [.int u12]) K hR [.int 11] [] 0 rfl rfl (c_X9_sum X.2.1 (gxD X) cy sd A mg mkept mspare mtrial mpast mreport mpart mcome morder mtext mtold mahead mhasKept mpasts mreports 0 mordering mdetail mlength mspot mnumber mtolds 11 hw) gX9_kilos_X9_sum rfl yok_X9_sum rfl rfl (by decide) rfl (Nat.le_of_ble_eq_true rfl) dX9_kilos_84 [0, 1, 2, 3, 4, 5, 6, 7, 8, 9, 10, 11, 12] rfl (by decide) (fun _ => rfl) ⟨rfl, rfl⟩ (fun u12 hw => ?_)
            refine g_goto (tgt := 98) K dX9_kilos_87 (by decide) ?_
            exact g_zret K E Er (u12, 0) hw rfl rfl rfl (Nat.le_refl _) (Nat.le_refl _) dX9_kilos_98
    · replace hw := hw.2 hc
      refine g_iconst (v := 1) K dX9_kilos_20 rfl ?_
      refine g_goto (tgt := 38) K dX9_kilos_21 (by decide) ?_
      refine g_put (ty := .int) (ws' := [((A 0), .inr (10, [.ref (A 1), .ref (A 2), .ref (A 3), .ref (A 4), .int mhasKept, .ref (A 5), .int mpasts, .ref (A 6), .int mreports, .int 1, .ref (A 7), .ref (A 8), .ref (A 9), .int mordering, .int mdetail, .ref (A 10), .int mlength, .int mspot, .int mnumber, .ref (A 11), .int mtolds, .ref (A 12)])), ((A 1), .inl (cy 0, 672, .inl mg)), ((A 2), .inl (cy 0, 672, .inl mkept)), ((A 3), .inl (cy 0, 672, .inl mspare)), ((A 4), .inl (cy 0, 672, .inl mtrial)), ((A 5), .inl (cy 0, 5376, .inl mpast)), ((A 6), .inl (cy 0, 6, .inl mreport)), ((A 7), .inl (cy 0, 5, .inl mpart)), ((A 8), .inl (cy 0, 5, .inl mcome)), ((A 9), .inl (cy 0, 60, .inl morder)), ((A 10), .inl (cy 0, 80, .inl mtext)), ((A 11), .inl (cy 0, 200, .inl mtold)), ((A 12), .inl (cy 0, 672, .inl mahead))]) K (C := RX9) (T := TX9) (N := 22) 0 9 in_X9_kilos_X9 tyX9 tyX9_ok nmX9 (by decide +kernel) rfl rfl (by decide) rfl (by decide +kernel) rfl rfl (Nat.le_of_ble_eq_true rfl) rfl dX9_kilos_38 ?_
      refine g_aload_n K 0 dX9_kilos_41 rfl ?_
      refine g_get K (C := RX9) (T := TX9) (N := 22) 0 9 in_X9_kilos_X9 (by decide +kernel) rfl rfl (by decide) rfl dX9_kilos_42 ?_
      refine g_if_le (tgt := 50) K dX9_kilos_45 (by decide) (fun hc => absurd hc (by decide)) (fun _ => ?_)
      refine g_iconst (v := 0) K dX9_kilos_48 rfl ?_
      exact g_zret K E Er (0, 1) hw rfl rfl rfl (Nat.le_refl _) (Nat.le_refl _) dX9_kilos_49

def wp_X9_isBale (mg : XRow) (p0 : Int32) (post : Bool → Prop) : Prop := vp_in 2 672 ∧ (wp_X9_in p0 0 ((mg ((2 : Int32).toNatClampNeg)) - 1) (fun u1 : Bool => post u1))
theorem in_X9_isBale_X9 : ∀ w ∈ u_ws RX9 TX9 22, w ∈ wsX9_isBale := by decide +kernel
set_option maxRecDepth 100000 in
set_option maxHeartbeats 4000000 in
theorem c_X9_isBale (l : Launch) (D : va_G) (cy : Nat → ClassId) (sd : xSd) (A : Nat → Nat) (mg : XRow) (mkept : XRow) (mspare : XRow) (mtrial : XRow) (mpast : XRow) (mreport : XRow) (mpart : XRow) (mcome : XRow) (morder : XRow) (mtext : XRow) (mtold : XRow) (mahead : XRow) (mhasKept : Int32) (mpasts : Int32) (mreports : Int32) (mthrown : Int32) (mordering : Int32) (mdetail : Int32) (mlength : Int32) (mspot : Int32) (mnumber : Int32) (mtolds : Int32) (p0 : Int32) {post : Bool → Prop} (hw : wp_X9_isBale mg p0 post) : Ctr l D (xTys cy) sd yX9_isBale wsX9_isBale ({ frames := 1, cells := 0, slots := 0, locals := 22 } : Room) [.ref (A 0), .int p0] (fun u : Bool => some (.int (bI u))) [((A 0), .inr (10, [.ref (A 1), .ref (A 2), .ref (A 3), .ref (A 4), .int mhasKept, .ref (A 5), .int mpasts, .ref (A 6), .int mreports, .int mthrown, .ref (A 7), .ref (A 8), .ref (A 9), .int mordering, .int mdetail, .ref (A 10), .int mlength, .int mspot, .int mnumber, .ref (A 11), .int mtolds, .ref (A 12)])), ((A 1), .inl (cy 0, 672, .inl mg)), ((A 2), .inl (cy 0, 672, .inl mkept)), ((A 3), .inl (cy 0, 672, .inl mspare)), ((A 4), .inl (cy 0, 672, .inl mtrial)), ((A 5), .inl (cy 0, 5376, .inl mpast)), ((A 6), .inl (cy 0, 6, .inl mreport)), ((A 7), .inl (cy 0, 5, .inl mpart)), ((A 8), .inl (cy 0, 5, .inl mcome)), ((A 9), .inl (cy 0, 60, .inl morder)), ((A 10), .inl (cy 0, 80, .inl mtext)), ((A 11), .inl (cy 0, 200, .inl mtold)), ((A 12), .inl (cy 0, 672, .inl mahead))] (fun _ => [((A 0), .inr (10, [.ref (A 1), .ref (A 2), .ref (A 3), .ref (A 4), .int mhasKept, .ref (A 5), .int mpasts, .ref (A 6), .int mreports, .int mthrown, .ref (A 7), .ref (A 8), .ref (A 9), .int mordering, .int mdetail, .ref (A 10), .int mlength, .int mspot, .int mnumber, .ref (A 11), .int mtolds, .ref (A 12)])), ((A 1), .inl (cy 0, 672, .inl mg)), ((A 2), .inl (cy 0, 672, .inl mkept)), ((A 3), .inl (cy 0, 672, .inl mspare)), ((A 4), .inl (cy 0, 672, .inl mtrial)), ((A 5), .inl (cy 0, 5376, .inl mpast)), ((A 6), .inl (cy 0, 6, .inl mreport)), ((A 7), .inl (cy 0, 5, .inl mpart)), ((A 8), .inl (cy 0, 5, .inl mcome)), ((A 9), .inl (cy 0, 60, .inl morder)), ((A 10), .inl (cy 0, 80, .inl mtext)), ((A 11), .inl (cy 0, 200, .inl mtold)), ((A 12), .inl (cy 0, 672, .inl mahead))]) post := by
  refine Ctr.of (cc := cX9_isBale) (maxL := 2) (ret := (some .boolean)) (lv0 := [(0, .ref (A 0)), (1, .int p0)]) (by decide) rfl (Nat.le_of_ble_eq_true rfl) rfl ?_
  intro X El hR Er Enm ED E En K
  have K : Cx X cX9_isBale RX9 wsX9_isBale (xTys cy) sd := K
  have E : X.2.2.2.2.2.2.2.2.2.2.1 = xMQ X (fun u : Bool => some (.int (bI u))) post (fun _ => [((A 0), .inr (10, [.ref (A 1), .ref (A 2), .ref (A 3), .ref (A 4), .int mhasKept, .ref (A 5), .int mpasts, .ref (A 6), .int mreports, .int mthrown, .ref (A 7), .ref (A 8), .ref (A 9), .int mordering, .int mdetail, .ref (A 10), .int mlength, .int mspot, .int mnumber, .ref (A 11), .int mtolds, .ref (A 12)])), ((A 1), .inl (cy 0, 672, .inl mg)), ((A 2), .inl (cy 0, 672, .inl mkept)), ((A 3), .inl (cy 0, 672, .inl mspare)), ((A 4), .inl (cy 0, 672, .inl mtrial)), ((A 5), .inl (cy 0, 5376, .inl mpast)), ((A 6), .inl (cy 0, 6, .inl mreport)), ((A 7), .inl (cy 0, 5, .inl mpart)), ((A 8), .inl (cy 0, 5, .inl mcome)), ((A 9), .inl (cy 0, 60, .inl morder)), ((A 10), .inl (cy 0, 80, .inl mtext)), ((A 11), .inl (cy 0, 200, .inl mtold)), ((A 12), .inl (cy 0, 672, .inl mahead))]) 0 0 := E
  unfold wp_X9_isBale at hw
  refine g_iload_n K 1 dX9_isBale_0 rfl ?_
  refine g_iconst (v := 0) K dX9_isBale_1 rfl ?_
  refine g_aload_n K 0 dX9_isBale_2 rfl ?_
  refine g_get K (C := RX9) (T := TX9) (N := 22) 0 0 in_X9_isBale_X9 (by decide +kernel) rfl rfl (by decide) rfl dX9_isBale_3 ?_
  refine g_iconst (v := 2) K dX9_isBale_6 rfl ?_
  refine g_iald K 1 0 rfl rfl hw.1 dX9_isBale_7 ?_
  replace hw := hw.2
  refine g_iconst (v := 1) K dX9_isBale_8 rfl ?_
  refine g_isub K dX9_isBale_9 ?_
  refine g_callSr (st' := fun u1 => [.int (bI u1)]) K hR [.int p0, .int 0, .int ((mg ((2 : Int32).toNatClampNeg)) - 1)] [] (c_X9_in X.2.1 (gxD X) cy sd p0 0 ((mg ((2 : Int32).toNatClampNeg)) - 1) hw) gX9_isBale_X9_in rfl yok_X9_in rfl (by decide) rfl (Nat.le_of_ble_eq_true rfl) dX9_isBale_10 [] rfl (by decide) (fun _ => rfl) ⟨rfl, rfl⟩ (fun u1 hw => ?_)
  exact g_zret K E Er u1 hw rfl (bI_narrow _) rfl (Nat.le_refl _) (Nat.le_refl _) dX9_isBale_13

def wp_X9_kilosOf (mg : XRow) (p0 : Int32) (post : Int32 → Prop) : Prop := wp_X9_baleAt p0 0 (fun u1 : Int32 => wp_X9_sum mg u1 (fun u2 : Int32 => post u2))
set_option maxRecDepth 100000 in
set_option maxHeartbeats 4000000 in
theorem c_X9_kilosOf (l : Launch) (D : va_G) (cy : Nat → ClassId) (sd : xSd) (A : Nat → Nat) (mg : XRow) (mkept : XRow) (mspare : XRow) (mtrial : XRow) (mpast : XRow) (mreport : XRow) (mpart : XRow) (mcome : XRow) (morder : XRow) (mtext : XRow) (mtold : XRow) (mahead : XRow) (mhasKept : Int32) (mpasts : Int32) (mreports : Int32) (mthrown : Int32) (mordering : Int32) (mdetail : Int32) (mlength : Int32) (mspot : Int32) (mnumber : Int32) (mtolds : Int32) (p0 : Int32) {post : Int32 → Prop} (hw : wp_X9_kilosOf mg p0 post) : Ctr l D (xTys cy) sd yX9_kilosOf wsX9_kilosOf ({ frames := 1, cells := 0, slots := 0, locals := 23 } : Room) [.ref (A 0), .int p0] (fun u : Int32 => some (.int u)) [((A 0), .inr (10, [.ref (A 1), .ref (A 2), .ref (A 3), .ref (A 4), .int mhasKept, .ref (A 5), .int mpasts, .ref (A 6), .int mreports, .int mthrown, .ref (A 7), .ref (A 8), .ref (A 9), .int mordering, .int mdetail, .ref (A 10), .int mlength, .int mspot, .int mnumber, .ref (A 11), .int mtolds, .ref (A 12)])), ((A 1), .inl (cy 0, 672, .inl mg)), ((A 2), .inl (cy 0, 672, .inl mkept)), ((A 3), .inl (cy 0, 672, .inl mspare)), ((A 4), .inl (cy 0, 672, .inl mtrial)), ((A 5), .inl (cy 0, 5376, .inl mpast)), ((A 6), .inl (cy 0, 6, .inl mreport)), ((A 7), .inl (cy 0, 5, .inl mpart)), ((A 8), .inl (cy 0, 5, .inl mcome)), ((A 9), .inl (cy 0, 60, .inl morder)), ((A 10), .inl (cy 0, 80, .inl mtext)), ((A 11), .inl (cy 0, 200, .inl mtold)), ((A 12), .inl (cy 0, 672, .inl mahead))] (fun _ => [((A 0), .inr (10, [.ref (A 1), .ref (A 2), .ref (A 3), .ref (A 4), .int mhasKept, .ref (A 5), .int mpasts, .ref (A 6), .int mreports, .int mthrown, .ref (A 7), .ref (A 8), .ref (A 9), .int mordering, .int mdetail, .ref (A 10), .int mlength, .int mspot, .int mnumber, .ref (A 11), .int mtolds, .ref (A 12)])), ((A 1), .inl (cy 0, 672, .inl mg)), ((A 2), .inl (cy 0, 672, .inl mkept)), ((A 3), .inl (cy 0, 672, .inl mspare)), ((A 4), .inl (cy 0, 672, .inl mtrial)), ((A 5), .inl (cy 0, 5376, .inl mpast)), ((A 6), .inl (cy 0, 6, .inl mreport)), ((A 7), .inl (cy 0, 5, .inl mpart)), ((A 8), .inl (cy 0, 5, .inl mcome)), ((A 9), .inl (cy 0, 60, .inl morder)), ((A 10), .inl (cy 0, 80, .inl mtext)), ((A 11), .inl (cy 0, 200, .inl mtold)), ((A 12), .inl (cy 0, 672, .inl mahead))]) post := by
  refine Ctr.of (cc := cX9_kilosOf) (maxL := 2) (ret := (some .int)) (lv0 := [(0, .ref (A 0)), (1, .int p0)]) (by decide) rfl (Nat.le_of_ble_eq_true rfl) rfl ?_
  intro X El hR Er Enm ED E En K
  have K : Cx X cX9_kilosOf RX9 wsX9_kilosOf (xTys cy) sd := K
  have E : X.2.2.2.2.2.2.2.2.2.2.1 = xMQ X (fun u : Int32 => some (.int u)) post (fun _ => [((A 0), .inr (10, [.ref (A 1), .ref (A 2), .ref (A 3), .ref (A 4), .int mhasKept, .ref (A 5), .int mpasts, .ref (A 6), .int mreports, .int mthrown, .ref (A 7), .ref (A 8), .ref (A 9), .int mordering, .int mdetail, .ref (A 10), .int mlength, .int mspot, .int mnumber, .ref (A 11), .int mtolds, .ref (A 12)])), ((A 1), .inl (cy 0, 672, .inl mg)), ((A 2), .inl (cy 0, 672, .inl mkept)), ((A 3), .inl (cy 0, 672, .inl mspare)), ((A 4), .inl (cy 0, 672, .inl mtrial)), ((A 5), .inl (cy 0, 5376, .inl mpast)), ((A 6), .inl (cy 0, 6, .inl mreport)), ((A 7), .inl (cy 0, 5, .inl mpart)), ((A 8), .inl (cy 0, 5, .inl mcome)), ((A 9), .inl (cy 0, 60, .inl morder)), ((A 10), .inl (cy 0, 80, .inl mtext)), ((A 11), .inl (cy 0, 200, .inl mtold)), ((A 12), .inl (cy 0, 672, .inl mahead))]) 0 0 := E
  unfold wp_X9_kilosOf at hw
  refine g_aload_n K 0 dX9_kilosOf_0 rfl ?_
  refine g_iload_n K 1 dX9_kilosOf_1 rfl ?_
  refine g_iconst (v := 0) K dX9_kilosOf_2 rfl ?_
  refine g_callSr (st' := fun u1 => [.int u1, .ref (A 0)]) K hR [.int p0, .int 0] [.ref (A 0)] (c_X9_baleAt X.2.1 (gxD X) cy sd p0 0 hw) gX9_kilosOf_X9_baleAt rfl yok_X9_baleAt rfl (by decide) rfl (Nat.le_of_ble_eq_true rfl) dX9_kilosOf_3 [] rfl (by decide) (fun _ => rfl) ⟨rfl, rfl⟩ (fun u1 hw => ?_)
  refine g_callVr (st' := fun u2 => [.int u2]) K hR [.int u1] [] 0 rfl rfl (c_X9_sum X.2.1 (gxD X) cy sd A mg mkept mspare mtrial mpast mreport mpart mcome morder mtext mtold mahead mhasKept mpasts mreports mthrown mordering mdetail mlength mspot mnumber mtolds u1 hw) gX9_kilosOf_X9_sum rfl yok_X9_sum rfl rfl (by decide) rfl (Nat.le_of_ble_eq_true rfl) dX9_kilosOf_6 [0, 1, 2, 3, 4, 5, 6, 7, 8, 9, 10, 11, 12] rfl (by decide) (fun _ => rfl) ⟨rfl, rfl⟩ (fun u2 hw => ?_)
  exact g_zret K E Er u2 hw rfl rfl rfl (Nat.le_refl _) (Nat.le_refl _) dX9_kilosOf_9

def wp_X9_pure (mg : XRow) (p0 : Int32) (post : Int32 → Prop) : Prop := wp_X9_baleAt p0 5 (fun u1 : Int32 => vp_in u1 672 ∧ (wp_X9_baleAt p0 (mg (u1).toNatClampNeg) (fun u2 : Int32 => vp_in u2 672 ∧ (post (mg (u2).toNatClampNeg)))))
theorem in_X9_pure_X9 : ∀ w ∈ u_ws RX9 TX9 22, w ∈ wsX9_pure := by decide +kernel
set_option maxRecDepth 100000 in
set_option maxHeartbeats 4000000 in
theorem c_X9_pure (l : Launch) (D : va_G) (cy : Nat → ClassId) (sd : xSd) (A : Nat → Nat) (mg : XRow) (mkept : XRow) (mspare : XRow) (mtrial : XRow) (mpast : XRow) (mreport : XRow) (mpart : XRow) (mcome : XRow) (morder : XRow) (mtext : XRow) (mtold : XRow) (mahead : XRow) (mhasKept : Int32) (mpasts : Int32) (mreports : Int32) (mthrown : Int32) (mordering : Int32) (mdetail : Int32) (mlength : Int32) (mspot : Int32) (mnumber : Int32) (mtolds : Int32) (p0 : Int32) {post : Int32 → Prop} (hw : wp_X9_pure mg p0 post) : Ctr l D (xTys cy) sd yX9_pure wsX9_pure ({ frames := 1, cells := 0, slots := 0, locals := 21 } : Room) [.ref (A 0), .int p0] (fun u : Int32 => some (.int u)) [((A 0), .inr (10, [.ref (A 1), .ref (A 2), .ref (A 3), .ref (A 4), .int mhasKept, .ref (A 5), .int mpasts, .ref (A 6), .int mreports, .int mthrown, .ref (A 7), .ref (A 8), .ref (A 9), .int mordering, .int mdetail, .ref (A 10), .int mlength, .int mspot, .int mnumber, .ref (A 11), .int mtolds, .ref (A 12)])), ((A 1), .inl (cy 0, 672, .inl mg)), ((A 2), .inl (cy 0, 672, .inl mkept)), ((A 3), .inl (cy 0, 672, .inl mspare)), ((A 4), .inl (cy 0, 672, .inl mtrial)), ((A 5), .inl (cy 0, 5376, .inl mpast)), ((A 6), .inl (cy 0, 6, .inl mreport)), ((A 7), .inl (cy 0, 5, .inl mpart)), ((A 8), .inl (cy 0, 5, .inl mcome)), ((A 9), .inl (cy 0, 60, .inl morder)), ((A 10), .inl (cy 0, 80, .inl mtext)), ((A 11), .inl (cy 0, 200, .inl mtold)), ((A 12), .inl (cy 0, 672, .inl mahead))] (fun _ => [((A 0), .inr (10, [.ref (A 1), .ref (A 2), .ref (A 3), .ref (A 4), .int mhasKept, .ref (A 5), .int mpasts, .ref (A 6), .int mreports, .int mthrown, .ref (A 7), .ref (A 8), .ref (A 9), .int mordering, .int mdetail, .ref (A 10), .int mlength, .int mspot, .int mnumber, .ref (A 11), .int mtolds, .ref (A 12)])), ((A 1), .inl (cy 0, 672, .inl mg)), ((A 2), .inl (cy 0, 672, .inl mkept)), ((A 3), .inl (cy 0, 672, .inl mspare)), ((A 4), .inl (cy 0, 672, .inl mtrial)), ((A 5), .inl (cy 0, 5376, .inl mpast)), ((A 6), .inl (cy 0, 6, .inl mreport)), ((A 7), .inl (cy 0, 5, .inl mpart)), ((A 8), .inl (cy 0, 5, .inl mcome)), ((A 9), .inl (cy 0, 60, .inl morder)), ((A 10), .inl (cy 0, 80, .inl mtext)), ((A 11), .inl (cy 0, 200, .inl mtold)), ((A 12), .inl (cy 0, 672, .inl mahead))]) post := by
  refine Ctr.of (cc := cX9_pure) (maxL := 2) (ret := (some .int)) (lv0 := [(0, .ref (A 0)), (1, .int p0)]) (by decide) rfl (Nat.le_of_ble_eq_true rfl) rfl ?_
  intro X El hR Er Enm ED E En K
  have K : Cx X cX9_pure RX9 wsX9_pure (xTys cy) sd := K
  have E : X.2.2.2.2.2.2.2.2.2.2.1 = xMQ X (fun u : Int32 => some (.int u)) post (fun _ => [((A 0), .inr (10, [.ref (A 1), .ref (A 2), .ref (A 3), .ref (A 4), .int mhasKept, .ref (A 5), .int mpasts, .ref (A 6), .int mreports, .int mthrown, .ref (A 7), .ref (A 8), .ref (A 9), .int mordering, .int mdetail, .ref (A 10), .int mlength, .int mspot, .int mnumber, .ref (A 11), .int mtolds, .ref (A 12)])), ((A 1), .inl (cy 0, 672, .inl mg)), ((A 2), .inl (cy 0, 672, .inl mkept)), ((A 3), .inl (cy 0, 672, .inl mspare)), ((A 4), .inl (cy 0, 672, .inl mtrial)), ((A 5), .inl (cy 0, 5376, .inl mpast)), ((A 6), .inl (cy 0, 6, .inl mreport)), ((A 7), .inl (cy 0, 5, .inl mpart)), ((A 8), .inl (cy 0, 5, .inl mcome)), ((A 9), .inl (cy 0, 60, .inl morder)), ((A 10), .inl (cy 0, 80, .inl mtext)), ((A 11), .inl (cy 0, 200, .inl mtold)), ((A 12), .inl (cy 0, 672, .inl mahead))]) 0 0 := E
  unfold wp_X9_pure at hw
  refine g_aload_n K 0 dX9_pure_0 rfl ?_
  refine g_get K (C := RX9) (T := TX9) (N := 22) 0 0 in_X9_pure_X9 (by decide +kernel) rfl rfl (by decide) rfl dX9_pure_1 ?_
  refine g_iload_n K 1 dX9_pure_4 rfl ?_
  refine g_aload_n K 0 dX9_pure_5 rfl ?_
  refine g_get K (C := RX9) (T := TX9) (N := 22) 0 0 in_X9_pure_X9 (by decide +kernel) rfl rfl (by decide) rfl dX9_pure_6 ?_
  refine g_iload_n K 1 dX9_pure_9 rfl ?_
  refine g_iconst (v := 5) K dX9_pure_10 rfl ?_
  refine g_callSr (st' := fun u1 => [.int u1, .ref (A 1), .int p0, .ref (A 1)]) K hR [.int p0, .int 5] [.ref (A 1), .int p0, .ref (A 1)] (c_X9_baleAt X.2.1 (gxD X) cy sd p0 5 hw) gX9_pure_X9_baleAt rfl yok_X9_baleAt rfl (by decide) rfl (Nat.le_of_ble_eq_true rfl) dX9_pure_11 [] rfl (by decide) (fun _ => rfl) ⟨rfl, rfl⟩ (fun u1 hw => ?_)
  refine g_iald K 1 0 rfl rfl hw.1 dX9_pure_14 ?_
  replace hw := hw.2
  refine g_callSr (st' := fun u2 => [.int u2, .ref (A 1)]) K hR [.int p0, .int (mg (u1).toNatClampNeg)] [.ref (A 1)] (c_X9_baleAt X.2.1 (gxD X) cy sd p0 (mg (u1).toNatClampNeg) hw) gX9_pure_X9_baleAt rfl yok_X9_baleAt rfl (by decide) rfl (Nat.le_of_ble_eq_true rfl) dX9_pure_15 [] rfl (by decide) (fun _ => rfl) ⟨rfl, rfl⟩ (fun u2 hw => ?_)
  refine g_iald K 1 0 rfl rfl hw.1 dX9_pure_18 ?_
  replace hw := hw.2
  exact g_zret K E Er (mg (u2).toNatClampNeg) hw rfl rfl rfl (Nat.le_refl _) (Nat.le_refl _) dX9_pure_19

def wp_X9_bale (mg : XRow) (p0 : Int32) (p1 : Int32) (post : (Int32 × Int32) → Prop) : Prop := wp_X9_isBale mg p0 (fun u1 : Bool => (u1 = true → (wp_X9_in p1 0 11 (fun u2 : Bool => (u2 = true → (((p1.toInt < 6 ∨ 6 + (6 : Nat) ≤ p1.toInt) → (wp_X9_baleAt p0 p1 (fun u3 : Int32 => vp_in u3 672 ∧ (post (mg (u3).toNatClampNeg, 0))))) ∧ (p1 = 6 → (wp_X9_kilosOf mg p0 (fun u4 : Int32 => post (u4, 0)))) ∧ (p1 = 7 → (wp_X9_pure mg p0 (fun u5 : Int32 => wp_X9_kilosOf mg p0 (fun u6 : Int32 => (¬ u6 = 0) ∧ (post ((u5 * 1000) / u6, 0)))))) ∧ (p1 = 8 → (wp_X9_baleAt p0 6 (fun u7 : Int32 => vp_in u7 672 ∧ (post (mg (u7).toNatClampNeg, 0))))) ∧ (p1 = 9 → (wp_X9_grade mg p0 (fun u8 : Int32 => post (u8, 0)))) ∧ (p1 = 10 → (wp_X9_baleAt p0 7 (fun u9 : Int32 => vp_in u9 672 ∧ (post (mg (u9).toNatClampNeg, 0))))) ∧ (p1 = 11 → (wp_X9_baleAt p0 8 (fun u10 : Int32 => vp_in u10 672 ∧ (post (mg (u10).toNatClampNeg, 0))))))) ∧ (u2 = false → (post (0, 2)))))) ∧ (u1 = false → (post (0, 1))))
theorem in_X9_bale_X9 : ∀ w ∈ u_ws RX9 TX9 22, w ∈ wsX9_bale := by decide +kernel
set_option maxRecDepth 100000 in
set_option maxHeartbeats 4000000 in
theorem c_X9_bale (l : Launch) (D : va_G) (cy : Nat → ClassId) (sd : xSd) (A : Nat → Nat) (mg : XRow) (mkept : XRow) (mspare : XRow) (mtrial : XRow) (mpast : XRow) (mreport : XRow) (mpart : XRow) (mcome : XRow) (morder : XRow) (mtext : XRow) (mtold : XRow) (mahead : XRow) (mhasKept : Int32) (mpasts : Int32) (mreports : Int32) (mthrown : Int32) (mordering : Int32) (mdetail : Int32) (mlength : Int32) (mspot : Int32) (mnumber : Int32) (mtolds : Int32) (p0 : Int32) (p1 : Int32) {post : (Int32 × Int32) → Prop} (hw : wp_X9_bale mg p0 p1 post) : Ctr l D (xTys cy) sd yX9_bale wsX9_bale ({ frames := 2, cells := 0, slots := 0, locals := 44 } : Room) [.ref (A 0), .int p0, .int p1] (fun u : Int32 × Int32 => some (.int u.1)) [((A 0), .inr (10, [.ref (A 1), .ref (A 2), .ref (A 3), .ref (A 4), .int mhasKept, .ref (A 5), .int mpasts, .ref (A 6), .int mreports, .int mthrown, .ref (A 7), .ref (A 8), .ref (A 9), .int mordering, .int mdetail, .ref (A 10), .int mlength, .int mspot, .int mnumber, .ref (A 11), .int mtolds, .ref (A 12)])), ((A 1), .inl (cy 0, 672, .inl mg)), ((A 2), .inl (cy 0, 672, .inl mkept)), ((A 3), .inl (cy 0, 672, .inl mspare)), ((A 4), .inl (cy 0, 672, .inl mtrial)), ((A 5), .inl (cy 0, 5376, .inl mpast)), ((A 6), .inl (cy 0, 6, .inl mreport)), ((A 7), .inl (cy 0, 5, .inl mpart)), ((A 8), .inl (cy 0, 5, .inl mcome)), ((A 9), .inl (cy 0, 60, .inl morder)), ((A 10), .inl (cy 0, 80, .inl mtext)), ((A 11), .inl (cy 0, 200, .inl mtold)), ((A 12), .inl (cy 0, 672, .inl mahead))] (fun u => [((A 0), .inr (10, [.ref (A 1), .ref (A 2), .ref (A 3), .ref (A 4), .int mhasKept, .ref (A 5), .int mpasts, .ref (A 6), .int mreports, .int u.2, .ref (A 7), .ref (A 8), .ref (A 9), .int mordering, .int mdetail, .ref (A 10), .int mlength, .int mspot, .int mnumber, .ref (A 11), .int mtolds, .ref (A 12)])), ((A 1), .inl (cy 0, 672, .inl mg)), ((A 2), .inl (cy 0, 672, .inl mkept)), ((A 3), .inl (cy 0, 672, .inl mspare)), ((A 4), .inl (cy 0, 672, .inl mtrial)), ((A 5), .inl (cy 0, 5376, .inl mpast)), ((A 6), .inl (cy 0, 6, .inl mreport)), ((A 7), .inl (cy 0, 5, .inl mpart)), ((A 8), .inl (cy 0, 5, .inl mcome)), ((A 9), .inl (cy 0, 60, .inl morder)), ((A 10), .inl (cy 0, 80, .inl mtext)), ((A 11), .inl (cy 0, 200, .inl mtold)), ((A 12), .inl (cy 0, 672, .inl mahead))]) post := by
  refine Ctr.of (cc := cX9_bale) (maxL := 3) (ret := (some .int)) (lv0 := [(0, .ref (A 0)), (1, .int p0), (2, .int p1)]) (by decide) rfl (Nat.le_of_ble_eq_true rfl) rfl ?_
  intro X El hR Er Enm ED E En K
  have K : Cx X cX9_bale RX9 wsX9_bale (xTys cy) sd := K
  have E : X.2.2.2.2.2.2.2.2.2.2.1 = xMQ X (fun u : Int32 × Int32 => some (.int u.1)) post (fun u => [((A 0), .inr (10, [.ref (A 1), .ref (A 2), .ref (A 3), .ref (A 4), .int mhasKept, .ref (A 5), .int mpasts, .ref (A 6), .int mreports, .int u.2, .ref (A 7), .ref (A 8), .ref (A 9), .int mordering, .int mdetail, .ref (A 10), .int mlength, .int mspot, .int mnumber, .ref (A 11), .int mtolds, .ref (A 12)])), ((A 1), .inl (cy 0, 672, .inl mg)), ((A 2), .inl (cy 0, 672, .inl mkept)), ((A 3), .inl (cy 0, 672, .inl mspare)), ((A 4), .inl (cy 0, 672, .inl mtrial)), ((A 5), .inl (cy 0, 5376, .inl mpast)), ((A 6), .inl (cy 0, 6, .inl mreport)), ((A 7), .inl (cy 0, 5, .inl mpart)), ((A 8), .inl (cy 0, 5, .inl mcome)), ((A 9), .inl (cy 0, 60, .inl morder)), ((A 10), .inl (cy 0, 80, .inl mtext)), ((A 11), .inl (cy 0, 200, .inl mtold)), ((A 12), .inl (cy 0, 672, .inl mahead))]) 0 0 := E
  unfold wp_X9_bale at hw
  refine g_aload_n K 0 dX9_bale_0 rfl ?_
  refine g_aload_n K 0 dX9_bale_1 rfl ?_
  refine g_iload_n K 1 dX9_bale_2 rfl ?_
  refine g_callVr (st' := fun u1 => [.int (bI u1), .ref (A 0)]) K hR [.int p0] [.ref (A 0)] 0 rfl rfl (c_X9_isBale X.2.1 (gxD X) cy sd A mg mkept mspare mtrial mpast mreport mpart mcome morder mtext mtold mahead mhasKept mpasts mreports mthrown mordering mdetail mlength mspot mnumber mtolds p0 hw) gX9_bale_X9_isBale rfl yok_X9_isBale rfl rfl (by decide) rfl (Nat.le_of_ble_eq_true rfl) dX9_bale_3 [0, 1, 2, 3, 4, 5, 6, 7, 8, 9, 10, 11, 12] rfl (by decide) (fun _ => rfl) ⟨rfl, rfl⟩ (fun u1 hw => ?_)
  refine g_ifb_eq (tgt := 27) K dX9_bale_6 (by decide) (fun hc => ?_) (fun hc => ?_)
  · replace hw := hw.2 hc
    refine g_iconst (v := 1) K dX9_bale_27 rfl ?_
    refine g_put (ty := .int) (ws' := [((A 0), .inr (10, [.ref (A 1), .ref (A 2), .ref (A 3), .ref (A 4), .int mhasKept, .ref (A 5), .int mpasts, .ref (A 6), .int mreports, .int 1, .ref (A 7), .ref (A 8), .ref (A 9), .int mordering, .int mdetail, .ref (A 10), .int mlength, .int mspot, .int mnumber, .ref (A 11), .int mtolds, .ref (A 12)])), ((A 1), .inl (cy 0, 672, .inl mg)), ((A 2), .inl (cy 0, 672, .inl mkept)), ((A 3), .inl (cy 0, 672, .inl mspare)), ((A 4), .inl (cy 0, 672, .inl mtrial)), ((A 5), .inl (cy 0, 5376, .inl mpast)), ((A 6), .inl (cy 0, 6, .inl mreport)), ((A 7), .inl (cy 0, 5, .inl mpart)), ((A 8), .inl (cy 0, 5, .inl mcome)), ((A 9), .inl (cy 0, 60, .inl morder)), ((A 10), .inl (cy 0, 80, .inl mtext)), ((A 11), .inl (cy 0, 200, .inl mtold)), ((A 12), .inl (cy 0, 672, .inl mahead))]) K (C := RX9) (T := TX9) (N := 22) 0 9 in_X9_bale_X9 tyX9 tyX9_ok nmX9 (by decide +kernel) rfl rfl (by decide) rfl (by decide +kernel) rfl rfl (Nat.le_of_ble_eq_true rfl) rfl dX9_bale_28 ?_
    refine g_aload_n K 0 dX9_bale_31 rfl ?_
    refine g_get K (C := RX9) (T := TX9) (N := 22) 0 9 in_X9_bale_X9 (by decide +kernel) rfl rfl (by decide) rfl dX9_bale_32 ?_
    refine g_if_le (tgt := 40) K dX9_bale_35 (by decide) (fun hc => absurd hc (by decide)) (fun _ => ?_)
    refine g_iconst (v := 0) K dX9_bale_38 rfl ?_
    exact g_zret K E Er (0, 1) hw rfl rfl rfl (Nat.le_refl _) (Nat.le_refl _) dX9_bale_39
  · replace hw := hw.1 hc
    refine g_iload_n K 2 dX9_bale_9 rfl ?_
    refine g_iconst (v := 0) K dX9_bale_10 rfl ?_
    refine g_bipush (v := 11) K dX9_bale_11 rfl ?_
    refine g_callSr (st' := fun u2 => [.int (bI u2), .ref (A 0)]) K hR [.int p1, .int 0, .int 11] [.ref (A 0)] (c_X9_in X.2.1 (gxD X) cy sd p1 0 11 hw) gX9_bale_X9_in rfl yok_X9_in rfl (by decide) rfl (Nat.le_of_ble_eq_true rfl) dX9_bale_13 [] rfl (by decide) (fun _ => rfl) ⟨rfl, rfl⟩ (fun u2 hw => ?_)
    refine g_ifb_eq (tgt := 23) K dX9_bale_16 (by decide) (fun hc => ?_) (fun hc => ?_)
    · replace hw := hw.2 hc
      refine g_iconst (v := 2) K dX9_bale_23 rfl ?_
      refine g_goto (tgt := 28) K dX9_bale_24 (by decide) ?_
      refine g_put (ty := .int) (ws' := [((A 0), .inr (10, [.ref (A 1), .ref (A 2), .ref (A 3), .ref (A 4), .int mhasKept, .ref (A 5), .int mpasts, .ref (A 6), .int mreports, .int 2, .ref (A 7), .ref (A 8), .ref (A 9), .int mordering, .int mdetail, .ref (A 10), .int mlength, .int mspot, .int mnumber, .ref (A 11), .int mtolds, .ref (A 12)])), ((A 1), .inl (cy 0, 672, .inl mg)), ((A 2), .inl (cy 0, 672, .inl mkept)), ((A 3), .inl (cy 0, 672, .inl mspare)), ((A 4), .inl (cy 0, 672, .inl mtrial)), ((A 5), .inl (cy 0, 5376, .inl mpast)), ((A 6), .inl (cy 0, 6, .inl mreport)), ((A 7), .inl (cy 0, 5, .inl mpart)), ((A 8), .inl (cy 0, 5, .inl mcome)), ((A 9), .inl (cy 0, 60, .inl morder)), ((A 10), .inl (cy 0, 80, .inl mtext)), ((A 11), .inl (cy 0, 200, .inl mtold)), ((A 12), .inl (cy 0, 672, .inl mahead))]) K (C := RX9) (T := TX9) (N := 22) 0 9 in_X9_bale_X9 tyX9 tyX9_ok nmX9 (by decide +kernel) rfl rfl (by decide) rfl (by decide +kernel) rfl rfl (Nat.le_of_ble_eq_true rfl) rfl dX9_bale_28 ?_
      refine g_aload_n K 0 dX9_bale_31 rfl ?_
      refine g_get K (C := RX9) (T := TX9) (N := 22) 0 9 in_X9_bale_X9 (by decide +kernel) rfl rfl (by decide) rfl dX9_bale_32 ?_
      refine g_if_le (tgt := 40) K dX9_bale_35 (by decide) (fun hc => absurd hc (by decide)) (fun _ => ?_)
      refine g_iconst (v := 0) K dX9_bale_38 rfl ?_
      exact g_zret K E Er (0, 2) hw rfl rfl rfl (Nat.le_refl _) (Nat.le_refl _) dX9_bale_39
    · replace hw := hw.1 hc
      refine g_iconst (v := 0) K dX9_bale_19 rfl ?_
      refine g_goto (tgt := 28) K dX9_bale_20 (by decide) ?_
      refine g_put (ty := .int) (ws' := [((A 0), .inr (10, [.ref (A 1), .ref (A 2), .ref (A 3), .ref (A 4), .int mhasKept, .ref (A 5), .int mpasts, .ref (A 6), .int mreports, .int 0, .ref (A 7), .ref (A 8), .ref (A 9), .int mordering, .int mdetail, .ref (A 10), .int mlength, .int mspot, .int mnumber, .ref (A 11), .int mtolds, .ref (A 12)])), ((A 1), .inl (cy 0, 672, .inl mg)), ((A 2), .inl (cy 0, 672, .inl mkept)), ((A 3), .inl (cy 0, 672, .inl mspare)), ((A 4), .inl (cy 0, 672, .inl mtrial)), ((A 5), .inl (cy 0, 5376, .inl mpast)), ((A 6), .inl (cy 0, 6, .inl mreport)), ((A 7), .inl (cy 0, 5, .inl mpart)), ((A 8), .inl (cy 0, 5, .inl mcome)), ((A 9), .inl (cy 0, 60, .inl morder)), ((A 10), .inl (cy 0, 80, .inl mtext)), ((A 11), .inl (cy 0, 200, .inl mtold)), ((A 12), .inl (cy 0, 672, .inl mahead))]) K (C := RX9) (T := TX9) (N := 22) 0 9 in_X9_bale_X9 tyX9 tyX9_ok nmX9 (by decide +kernel) rfl rfl (by decide) rfl (by decide +kernel) rfl rfl (Nat.le_of_ble_eq_true rfl) rfl dX9_bale_28 ?_
      refine g_aload_n K 0 dX9_bale_31 rfl ?_
      refine g_get K (C := RX9) (T := TX9) (N := 22) 0 9 in_X9_bale_X9 (by decide +kernel) rfl rfl (by decide) rfl dX9_bale_32 ?_
      refine g_if_le (tgt := 40) K dX9_bale_35 (by decide) (fun _ => ?_) (fun hc => absurd (by decide) hc)
      refine g_iload_n K 2 dX9_bale_40 rfl ?_
      rcases sw_out (x := p1) (lo := 6) (n := 6) with hc | ⟨k, hk, hc⟩
      · refine g_tableOut (tgt := 144) K dX9_bale_41 (by omega) (by decide) ?_
        replace hw := hw.1 hc
        refine g_aload_n K 0 dX9_bale_144 rfl ?_
        refine g_get K (C := RX9) (T := TX9) (N := 22) 0 0 in_X9_bale_X9 (by decide +kernel) rfl rfl (by decide) rfl dX9_bale_145 ?_
        refine g_iload_n K 1 dX9_bale_148 rfl ?_
        refine g_iload_n K 2 dX9_bale_149 rfl ?_
        refine g_callSr (st' := fun u3 => [.int u3, .ref (A 1)]) K hR [.int p0, .int p1] [.ref (A 1)] (c_X9_baleAt X.2.1 (gxD X) cy sd p0 p1 hw) gX9_bale_X9_baleAt rfl yok_X9_baleAt rfl (by decide) rfl (Nat.le_of_ble_eq_true rfl) dX9_bale_150 [] rfl (by decide) (fun _ => rfl) ⟨rfl, rfl⟩ (fun u3 hw => ?_)
        refine g_iald K 1 0 rfl rfl hw.1 dX9_bale_153 ?_
        replace hw := hw.2
        exact g_zret K E Er (mg (u3).toNatClampNeg, 0) hw rfl rfl rfl (Nat.le_refl _) (Nat.le_refl _) dX9_bale_154
      · replace hw := hw.2
        rcases (show k = 0 ∨ 1 ≤ k by omega) with hk0 | hk0
        · have hx9 : p1 = 6 := Int32.toInt_inj.mp (by rw [hc, hk0]; decide)
          refine g_tableIn (tgt := 80) (off := 39) K dX9_bale_41 (by rw [hx9]; decide) (by rw [hx9]; decide) (by rw [hx9]; rfl) (by decide) ?_
          replace hw := hw.1 hx9
          refine g_aload_n K 0 dX9_bale_80 rfl ?_
          refine g_iload_n K 1 dX9_bale_81 rfl ?_
          refine g_callVr (st' := fun u4 => [.int u4]) K hR [.int p0] [] 0 rfl rfl (c_X9_kilosOf X.2.1 (gxD X) cy sd A mg mkept mspare mtrial mpast mreport mpart mcome morder mtext mtold mahead mhasKept mpasts mreports 0 mordering mdetail mlength mspot mnumber mtolds p0 hw) gX9_bale_X9_kilosOf rfl yok_X9_kilosOf rfl rfl (by decide) rfl (Nat.le_of_ble_eq_true rfl) dX9_bale_82 [0, 1, 2, 3, 4, 5, 6, 7, 8, 9, 10, 11, 12] rfl (by decide) (fun _ => rfl) ⟨rfl, rfl⟩ (fun u4 hw => ?_)
          exact g_zret K E Er (u4, 0) hw rfl rfl rfl (Nat.le_refl _) (Nat.le_refl _) dX9_bale_85
        replace hw := hw.2
        rcases (show k = 1 ∨ 2 ≤ k by omega) with hk1 | hk1
        · have hx9 : p1 = 7 := Int32.toInt_inj.mp (by rw [hc, hk1]; decide)
          refine g_tableIn (tgt := 86) (off := 45) K dX9_bale_41 (by rw [hx9]; decide) (by rw [hx9]; decide) (by rw [hx9]; rfl) (by decide) ?_
          replace hw := hw.1 hx9
          refine g_aload_n K 0 dX9_bale_86 rfl ?_
          refine g_iload_n K 1 dX9_bale_87 rfl ?_
          refine g_callVr (st' := fun u5 => [.int u5]) K hR [.int p0] [] 0 rfl rfl (c_X9_pure X.2.1 (gxD X) cy sd A mg mkept mspare mtrial mpast mreport mpart mcome morder mtext mtold mahead mhasKept mpasts mreports 0 mordering mdetail mlength mspot mnumber mtolds p0 hw) gX9_bale_X9_pure rfl yok_X9_pure rfl rfl (by decide) rfl (Nat.le_of_ble_eq_true rfl) dX9_bale_88 [0, 1, 2, 3, 4, 5, 6, 7, 8, 9, 10, 11, 12] rfl (by decide) (fun _ => rfl) ⟨rfl, rfl⟩ (fun u5 hw => ?_)
          refine g_sipush (v := 1000) K dX9_bale_91 rfl ?_
          refine g_imul K dX9_bale_94 ?_
          refine g_aload_n K 0 dX9_bale_95 rfl ?_
          refine g_iload_n K 1 dX9_bale_96 rfl ?_
          refine g_callVr (st' := fun u6 => [.int u6, .int (u5 * 1000)]) K hR [.int p0] [.int (u5 * 1000)] 0 rfl rfl (c_X9_kilosOf X.2.1 (gxD X) cy sd A mg mkept mspare mtrial mpast mreport mpart mcome morder mtext mtold mahead mhasKept mpasts mreports 0 mordering mdetail mlength mspot mnumber mtolds p0 hw) gX9_bale_X9_kilosOf rfl yok_X9_kilosOf rfl rfl (by decide) rfl (Nat.le_of_ble_eq_true rfl) dX9_bale_97 [0, 1, 2, 3, 4, 5, 6, 7, 8, 9, 10, 11, 12] rfl (by decide) (fun _ => rfl) ⟨rfl, rfl⟩ (fun u6 hw => ?_)
          refine g_idiv K dX9_bale_100 hw.1 ?_
          replace hw := hw.2
          exact g_zret K E Er ((u5 * 1000) / u6, 0) hw rfl rfl rfl (Nat.le_refl _) (Nat.le_refl _) dX9_bale_101
        replace hw := hw.2
        rcases (show k = 2 ∨ 3 ≤ k by omega) with hk2 | hk2
        · have hx9 : p1 = 8 := Int32.toInt_inj.mp (by rw [hc, hk2]; decide)
          refine g_tableIn (tgt := 102) (off := 61) K dX9_bale_41 (by rw [hx9]; decide) (by rw [hx9]; decide) (by rw [hx9]; rfl) (by decide) ?_
          replace hw := hw.1 hx9
          refine g_aload_n K 0 dX9_bale_102 rfl ?_
          refine g_get K (C := RX9) (T := TX9) (N := 22) 0 0 in_X9_bale_X9 (by decide +kernel) rfl rfl (by decide) rfl dX9_bale_103 ?_
          refine g_iload_n K 1 dX9_bale_106 rfl ?_
          refine g_bipush (v := 6) K dX9_bale_107 rfl ?_
          refine g_callSr (st' := fun u7 => [.int u7, .ref (A 1)]) K hR [.int p0, .int 6] [.ref (A 1)] (c_X9_baleAt X.2.1 (gxD X) cy sd p0 6 hw) gX9_bale_X9_baleAt rfl yok_X9_baleAt rfl (by decide) rfl (Nat.le_of_ble_eq_true rfl) dX9_bale_109 [] rfl (by decide) (fun _ => rfl) ⟨rfl, rfl⟩ (fun u7 hw => ?_)
          refine g_iald K 1 0 rfl rfl hw.1 dX9_bale_112 ?_
          replace hw := hw.2
          exact g_zret K E Er (mg (u7).toNatClampNeg, 0) hw rfl rfl rfl (Nat.le_refl _) (Nat.le_refl _) dX9_bale_113
        replace hw := hw.2
        rcases (show k = 3 ∨ 4 ≤ k by omega) with hk3 | hk3
        · have hx9 : p1 = 9 := Int32.toInt_inj.mp (by rw [hc, hk3]; decide)
          refine g_tableIn (tgt := 114) (off := 73) K dX9_bale_41 (by rw [hx9]; decide) (by rw [hx9]; decide) (by rw [hx9]; rfl) (by decide) ?_
          replace hw := hw.1 hx9
          refine g_aload_n K 0 dX9_bale_114 rfl ?_
          refine g_iload_n K 1 dX9_bale_115 rfl ?_
          refine g_callVr (st' := fun u8 => [.int u8]) K hR [.int p0] [] 0 rfl rfl (c_X9_grade X.2.1 (gxD X) cy sd A mg mkept mspare mtrial mpast mreport mpart mcome morder mtext mtold mahead mhasKept mpasts mreports 0 mordering mdetail mlength mspot mnumber mtolds p0 hw) gX9_bale_X9_grade rfl yok_X9_grade rfl rfl (by decide) rfl (Nat.le_of_ble_eq_true rfl) dX9_bale_116 [0, 1, 2, 3, 4, 5, 6, 7, 8, 9, 10, 11, 12] rfl (by decide) (fun _ => rfl) ⟨rfl, rfl⟩ (fun u8 hw => ?_)
          exact g_zret K E Er (u8, 0) hw rfl rfl rfl (Nat.le_refl _) (Nat.le_refl _) dX9_bale_119
        replace hw := hw.2
        rcases (show k = 4 ∨ 5 ≤ k by omega) with hk4 | hk4
        · have hx9 : p1 = 10 := Int32.toInt_inj.mp (by rw [hc, hk4]; decide)
          refine g_tableIn (tgt := 120) (off := 79) K dX9_bale_41 (by rw [hx9]; decide) (by rw [hx9]; decide) (by rw [hx9]; rfl) (by decide) ?_
          replace hw := hw.1 hx9
          refine g_aload_n K 0 dX9_bale_120 rfl ?_
          refine g_get K (C := RX9) (T := TX9) (N := 22) 0 0 in_X9_bale_X9 (by decide +kernel) rfl rfl (by decide) rfl dX9_bale_121 ?_
          refine g_iload_n K 1 dX9_bale_124 rfl ?_
          refine g_bipush (v := 7) K dX9_bale_125 rfl ?_
          refine g_callSr (st' := fun u9 => [.int u9, .ref (A 1)]) K hR [.int p0, .int 7] [.ref (A 1)] (c_X9_baleAt X.2.1 (gxD X) cy sd p0 7 hw) gX9_bale_X9_baleAt rfl yok_X9_baleAt rfl (by decide) rfl (Nat.le_of_ble_eq_true rfl) dX9_bale_127 [] rfl (by decide) (fun _ => rfl) ⟨rfl, rfl⟩ (fun u9 hw => ?_)
          refine g_iald K 1 0 rfl rfl hw.1 dX9_bale_130 ?_
          replace hw := hw.2
          exact g_zret K E Er (mg (u9).toNatClampNeg, 0) hw rfl rfl rfl (Nat.le_refl _) (Nat.le_refl _) dX9_bale_131
        replace hw := hw.2
        have hx9 : p1 = 11 := Int32.toInt_inj.mp (by rw [hc, show k = 5 by omega]; decide)
        refine g_tableIn (tgt := 132) (off := 91) K dX9_bale_41 (by rw [hx9]; decide) (by rw [hx9]; decide) (by rw [hx9]; rfl) (by decide) ?_
        replace hw := hw hx9
        refine g_aload_n K 0 dX9_bale_132 rfl ?_
        refine g_get K (C := RX9) (T := TX9) (N := 22) 0 0 in_X9_bale_X9 (by decide +kernel) rfl rfl (by decide) rfl dX9_bale_133 ?_
        refine g_iload_n K 1 dX9_bale_136 rfl ?_
        refine g_bipush (v := 8) K dX9_bale_137 rfl ?_
        refine g_callSr (st' := fun u10 => [.int u10, .ref (A 1)]) K hR [.int p0, .int 8] [.ref (A 1)] (c_X9_baleAt X.2.1 (gxD X) cy sd p0 8 hw) gX9_bale_X9_baleAt rfl yok_X9_baleAt rfl (by decide) rfl (Nat.le_of_ble_eq_true rfl) dX9_bale_139 [] rfl (by decide) (fun _ => rfl) ⟨rfl, rfl⟩ (fun u10 hw => ?_)
        refine g_iald K 1 0 rfl rfl hw.1 dX9_bale_142 ?_
        replace hw := hw.2
        exact g_zret K E Er (mg (u10).toNatClampNeg, 0) hw rfl rfl rfl (Nat.le_refl _) (Nat.le_refl _) dX9_bale_143

def wp_X9_isAhead (mg : XRow) (p0 : Int32) (p1 : Int32) (post : Bool → Prop) : Prop := wp_X9_baleAt p0 6 (fun u1 : Int32 => vp_in u1 672 ∧ (wp_X9_baleAt p1 6 (fun u2 : Int32 => vp_in u2 672 ∧ (((mg (u1).toNatClampNeg) = (mg (u2).toNatClampNeg) → ((p1 ≤ p0 → (post false)) ∧ (¬ p1 ≤ p0 → (post true)))) ∧ (¬ (mg (u1).toNatClampNeg) = (mg (u2).toNatClampNeg) → (wp_X9_baleAt p0 6 (fun u3 : Int32 => vp_in u3 672 ∧ (wp_X9_baleAt p1 6 (fun u4 : Int32 => vp_in u4 672 ∧ (((mg (u3).toNatClampNeg) ≤ (mg (u4).toNatClampNeg) → (post false)) ∧ (¬ (mg (u3).toNatClampNeg) ≤ (mg (u4).toNatClampNeg) → (post true))))))))))))
theorem in_X9_isAhead_X9 : ∀ w ∈ u_ws RX9 TX9 22, w ∈ wsX9_isAhead := by decide +kernel
set_option maxRecDepth 100000 in
set_option maxHeartbeats 4000000 in
theorem c_X9_isAhead (l : Launch) (D : va_G) (cy : Nat → ClassId) (sd : xSd) (A : Nat → Nat) (mg : XRow) (mkept : XRow) (mspare : XRow) (mtrial : XRow) (mpast : XRow) (mreport : XRow) (mpart : XRow) (mcome : XRow) (morder : XRow) (mtext : XRow) (mtold : XRow) (mahead : XRow) (mhasKept : Int32) (mpasts : Int32) (mreports : Int32) (mthrown : Int32) (mordering : Int32) (mdetail : Int32) (mlength : Int32) (mspot : Int32) (mnumber : Int32) (mtolds : Int32) (p0 : Int32) (p1 : Int32) {post : Bool → Prop} (hw : wp_X9_isAhead mg p0 p1 post) : Ctr l D (xTys cy) sd yX9_isAhead wsX9_isAhead ({ frames := 1, cells := 0, slots := 0, locals := 21 } : Room) [.ref (A 0), .int p0, .int p1] (fun u : Bool => some (.int (bI u))) [((A 0), .inr (10, [.ref (A 1), .ref (A 2), .ref (A 3), .ref (A 4), .int mhasKept, .ref (A 5), .int mpasts, .ref (A 6), .int mreports, .int mthrown, .ref (A 7), .ref (A 8), .ref (A 9), .int mordering, .int mdetail, .ref (A 10), .int mlength, .int mspot, .int mnumber, .ref (A 11), .int mtolds, .ref (A 12)])), ((A 1), .inl (cy 0, 672, .inl mg)), ((A 2), .inl (cy 0, 672, .inl mkept)), ((A 3), .inl (cy 0, 672, .inl mspare)), ((A 4), .inl (cy 0, 672, .inl mtrial)), ((A 5), .inl (cy 0, 5376, .inl mpast)), ((A 6), .inl (cy 0, 6, .inl mreport)), ((A 7), .inl (cy 0, 5, .inl mpart)), ((A 8), .inl (cy 0, 5, .inl mcome)), ((A 9), .inl (cy 0, 60, .inl morder)), ((A 10), .inl (cy 0, 80, .inl mtext)), ((A 11), .inl (cy 0, 200, .inl mtold)), ((A 12), .inl (cy 0, 672, .inl mahead))] (fun _ => [((A 0), .inr (10, [.ref (A 1), .ref (A 2), .ref (A 3), .ref (A 4), .int mhasKept, .ref (A 5), .int mpasts, .ref (A 6), .int mreports, .int mthrown, .ref (A 7), .ref (A 8), .ref (A 9), .int mordering, .int mdetail, .ref (A 10), .int mlength, .int mspot, .int mnumber, .ref (A 11), .int mtolds, .ref (A 12)])), ((A 1), .inl (cy 0, 672, .inl mg)), ((A 2), .inl (cy 0, 672, .inl mkept)), ((A 3), .inl (cy 0, 672, .inl mspare)), ((A 4), .inl (cy 0, 672, .inl mtrial)), ((A 5), .inl (cy 0, 5376, .inl mpast)), ((A 6), .inl (cy 0, 6, .inl mreport)), ((A 7), .inl (cy 0, 5, .inl mpart)), ((A 8), .inl (cy 0, 5, .inl mcome)), ((A 9), .inl (cy 0, 60, .inl morder)), ((A 10), .inl (cy 0, 80, .inl mtext)), ((A 11), .inl (cy 0, 200, .inl mtold)), ((A 12), .inl (cy 0, 672, .inl mahead))]) post := by
  refine Ctr.of (cc := cX9_isAhead) (maxL := 3) (ret := (some .boolean)) (lv0 := [(0, .ref (A 0)), (1, .int p0), (2, .int p1)]) (by decide) rfl (Nat.le_of_ble_eq_true rfl) rfl ?_
  intro X El hR Er Enm ED E En K
  have K : Cx X cX9_isAhead RX9 wsX9_isAhead (xTys cy) sd := K
  have E : X.2.2.2.2.2.2.2.2.2.2.1 = xMQ X (fun u : Bool => some (.int (bI u))) post (fun _ => [((A 0), .inr (10, [.ref (A 1), .ref (A 2), .ref (A 3), .ref (A 4), .int mhasKept, .ref (A 5), .int mpasts, .ref (A 6), .int mreports, .int mthrown, .ref (A 7), .ref (A 8), .ref (A 9), .int mordering, .int mdetail, .ref (A 10), .int mlength, .int mspot, .int mnumber, .ref (A 11), .int mtolds, .ref (A 12)])), ((A 1), .inl (cy 0, 672, .inl mg)), ((A 2), .inl (cy 0, 672, .inl mkept)), ((A 3), .inl (cy 0, 672, .inl mspare)), ((A 4), .inl (cy 0, 672, .inl mtrial)), ((A 5), .inl (cy 0, 5376, .inl mpast)), ((A 6), .inl (cy 0, 6, .inl mreport)), ((A 7), .inl (cy 0, 5, .inl mpart)), ((A 8), .inl (cy 0, 5, .inl mcome)), ((A 9), .inl (cy 0, 60, .inl morder)), ((A 10), .inl (cy 0, 80, .inl mtext)), ((A 11), .inl (cy 0, 200, .inl mtold)), ((A 12), .inl (cy 0, 672, .inl mahead))]) 0 0 := E
  unfold wp_X9_isAhead at hw
  refine g_aload_n K 0 dX9_isAhead_0 rfl ?_
  refine g_get K (C := RX9) (T := TX9) (N := 22) 0 0 in_X9_isAhead_X9 (by decide +kernel) rfl rfl (by decide) rfl dX9_isAhead_1 ?_
  refine g_iload_n K 1 dX9_isAhead_4 rfl ?_
  refine g_bipush (v := 6) K dX9_isAhead_5 rfl ?_
  refine g_callSr (st' := fun u1 => [.int u1, .ref (A 1)]) K hR [.int p0, .int 6] [.ref (A 1)] (c_X9_baleAt X.2.1 (gxD X) cy sd p0 6 hw) gX9_isAhead_X9_baleAt rfl yok_X9_baleAt rfl (by decide) rfl (Nat.le_of_ble_eq_true rfl) dX9_isAhead_7 [] rfl (by decide) (fun _ => rfl) ⟨rfl, rfl⟩ (fun u1 hw => ?_)
  refine g_iald K 1 0 rfl rfl hw.1 dX9_isAhead_10 ?_
  replace hw := hw.2
  refine g_aload_n K 0 dX9_isAhead_11 rfl ?_
  refine g_get K (C := RX9) (T := TX9) (N := 22) 0 0 in_X9_isAhead_X9 (by decide +kernel) rfl rfl (by decide) rfl dX9_isAhead_12 ?_
  refine g_iload_n K 2 dX9_isAhead_15 rfl ?_
  refine g_bipush (v := 6) K dX9_isAhead_16 rfl ?_
  refine g_callSr (st' := fun u2 => [.int u2, .ref (A 1), .int (mg (u1).toNatClampNeg)]) K hR [.int p1, .int 6] [.ref (A 1), .int (mg (u1).toNatClampNeg)] (c_X9_baleAt X.2.1 (gxD X) cy sd p1 6 hw) gX9_isAhead_X9_baleAt rfl yok_X9_baleAt rfl (by decide) rfl (Nat.le_of_ble_eq_true rfl) dX9_isAhead_18 [] rfl (by decide) (fun _ => rfl) ⟨rfl, rfl⟩ (fun u2 hw => ?_)
  refine g_iald K 1 0 rfl rfl hw.1 dX9_isAhead_21 ?_
  replace hw := hw.2
  refine g_icmp_eq (tgt := 58) K dX9_isAhead_22 (by decide) (fun hc => ?_) (fun hc => ?_)
  · replace hw := hw.1 hc
    refine g_iload_n K 1 dX9_isAhead_58 rfl ?_
    refine g_iload_n K 2 dX9_isAhead_59 rfl ?_
    refine g_icmp_ge (tgt := 67) K dX9_isAhead_60 (by decide) (fun hc => ?_) (fun hc => ?_)
    · replace hw := hw.1 hc
      refine g_iconst (v := 0) K dX9_isAhead_67 rfl ?_
      exact g_zret K E Er false hw rfl rfl rfl (Nat.le_refl _) (Nat.le_refl _) dX9_isAhead_68
    · replace hw := hw.2 hc
      refine g_iconst (v := 1) K dX9_isAhead_63 rfl ?_
      refine g_goto (tgt := 68) K dX9_isAhead_64 (by decide) ?_
      exact g_zret K E Er true hw rfl rfl rfl (Nat.le_refl _) (Nat.le_refl _) dX9_isAhead_68
  · replace hw := hw.2 hc
    refine g_aload_n K 0 dX9_isAhead_25 rfl ?_
    refine g_get K (C := RX9) (T := TX9) (N := 22) 0 0 in_X9_isAhead_X9 (by decide +kernel) rfl rfl (by decide) rfl dX9_isAhead_26 ?_
    refine g_iload_n K 1 dX9_isAhead_29 rfl ?_
    refine g_bipush (v := 6) K dX9_isAhead_30 rfl ?_
    refine g_callSr (st' := fun u3 => [.int u3, .ref (A 1)]) K hR [.int p0, .int 6] [.ref (A 1)] (c_X9_baleAt X.2.1 (gxD X) cy sd p0 6 hw) gX9_isAhead_X9_baleAt rfl yok_X9_baleAt rfl (by decide) rfl (Nat.le_of_ble_eq_true rfl) dX9_isAhead_32 [] rfl (by decide) (fun _ => rfl) ⟨rfl, rfl⟩ (fun u3 hw => ?_)
    refine g_iald K 1 0 rfl rfl hw.1 dX9_isAhead_35 ?_
    replace hw := hw.2
    refine g_aload_n K 0 dX9_isAhead_36 rfl ?_
    refine g_get K (C := RX9) (T := TX9) (N := 22) 0 0 in_X9_isAhead_X9 (by decide +kernel) rfl rfl (by decide) rfl dX9_isAhead_37 ?_
    refine g_iload_n K 2 dX9_isAhead_40 rfl ?_
    refine g_bipush (v := 6) K dX9_isAhead_41 rfl ?_
    refine g_callSr (st' := fun u4 => [.int u4, .ref (A 1), .int (mg (u3).toNatClampNeg)]) K hR [.int p1, .int 6] [.ref (A 1), .int (mg (u3).toNatClampNeg)] (c_X9_baleAt X.2.1 (gxD X) cy sd p1 6 hw) gX9_isAhead_X9_baleAt rfl yok_X9_baleAt rfl (by decide) rfl (Nat.le_of_ble_eq_true rfl) dX9_isAhead_43 [] rfl (by decide) (fun _ => rfl) ⟨rfl, rfl⟩ (fun u4 hw => ?_)
    refine g_iald K 1 0 rfl rfl hw.1 dX9_isAhead_46 ?_
    replace hw := hw.2
    refine g_icmp_le (tgt := 54) K dX9_isAhead_47 (by decide) (fun hc => ?_) (fun hc => ?_)
    · replace hw := hw.1 hc
      refine g_iconst (v := 0) K dX9_isAhead_54 rfl ?_
      refine g_goto (tgt := 68) K dX9_isAhead_55 (by decide) ?_
      exact g_zret K E Er false hw rfl rfl rfl (Nat.le_refl _) (Nat.le_refl _) dX9_isAhead_68
    · replace hw := hw.2 hc
      refine g_iconst (v := 1) K dX9_isAhead_50 rfl ?_
      refine g_goto (tgt := 68) K dX9_isAhead_51 (by decide) ?_
      exact g_zret K E Er true hw rfl rfl rfl (Nat.le_refl _) (Nat.le_refl _) dX9_isAhead_68

def wp_X9_orders_L39 (mg : XRow) (v1 : Int32) (k39_79 : Int32 → XRow → Prop) : Nat → Int32 → XRow → Prop
  | 0, _, _ => False
  | fu + 1, v5, v6 => (v5 ≤ 0 → (k39_79 v5 v6)) ∧ (¬ v5 ≤ 0 → (vp_in (v5 - 1) 60 ∧ (wp_X9_isAhead mg v1 (v6 (v5 - 1).toNatClampNeg) (fun u7 : Bool => (u7 = true → (vp_in (v5 - 1) 60 ∧ (vp_in v5 60 ∧ (∀ x8 : Int32, x8 = v5 + (-1) → (wp_X9_orders_L39 mg v1 k39_79 fu x8 (upd v6 (v5).toNatClampNeg (v6 (v5 - 1).toNatClampNeg))))))) ∧ (u7 = false → (k39_79 v5 v6))))))
def wp_X9_orders_L7 (mg : XRow) (k7_102 : Int32 → Int32 → XRow → Prop) : Nat → Int32 → Int32 → XRow → Prop
  | 0, _, _, _ => False
  | fu + 1, v1, v2, v3 => vp_in 2 672 ∧ (((mg ((2 : Int32).toNatClampNeg)) ≤ v1 → (k7_102 v1 v2 v3)) ∧ (¬ (mg ((2 : Int32).toNatClampNeg)) ≤ v1 → (wp_X9_baleAt v1 7 (fun u4 : Int32 => vp_in u4 672 ∧ (((mg (u4).toNatClampNeg) = 0 → (∃ fl, wp_X9_orders_L39 mg v1 (fun (v9 : Int32) (v10 : XRow) => vp_in v9 60 ∧ (∀ x11 : Int32, x11 = v2 + 1 → (∀ x12 : Int32, x12 = v1 + 1 → (wp_X9_orders_L7 mg k7_102 fu x12 x11 (upd v10 (v9).toNatClampNeg v1))))) fl v2 v3)) ∧ (¬ (mg (u4).toNatClampNeg) = 0 → (∀ x13 : Int32, x13 = v1 + 1 → (wp_X9_orders_L7 mg k7_102 fu x13 v2 v3))))))))
def wp_X9_orders (mg : XRow) (morder : XRow) (post : (Int32 × XRow) → Prop) : Prop := ∃ fl, wp_X9_orders_L7 mg (fun (v14 : Int32) (v15 : Int32) (v16 : XRow) => post (v15, v16)) fl 0 0 morder
theorem in_X9_orders_X9 : ∀ w ∈ u_ws RX9 TX9 22, w ∈ wsX9_orders := by decide +kernel
set_option maxRecDepth 100000 in
set_option maxHeartbeats 4000000 in
theorem c_X9_orders (l : Launch) (D : va_G) (cy : Nat → ClassId) (sd : xSd) (A : Nat → Nat) (mg : XRow) (mkept : XRow) (mspare : XRow) (mtrial : XRow) (mpast : XRow) (mreport : XRow) (mpart : XRow) (mcome : XRow) (morder : XRow) (mtext : XRow) (mtold : XRow) (mahead : XRow) (mhasKept : Int32) (mpasts : Int32) (mreports : Int32) (mthrown : Int32) (mordering : Int32) (mdetail : Int32) (mlength : Int32) (mspot : Int32) (mnumber : Int32) (mtolds : Int32) {post : (Int32 × XRow) → Prop} (hw : wp_X9_orders mg morder post) : Ctr l D (xTys cy) sd yX9_orders wsX9_orders ({ frames := 2, cells := 0, slots := 0, locals := 43 } : Room) [.ref (A 0)] (fun u : Int32 × XRow => none) [((A 0), .inr (10, [.ref (A 1), .ref (A 2), .ref (A 3), .ref (A 4), .int mhasKept, .ref (A 5), .int mpasts, .ref (A 6), .int mreports, .int mthrown, .ref (A 7), .ref (A 8), .ref (A 9), .int mordering, .int mdetail, .ref (A 10), .int mlength, .int mspot, .int mnumber, .ref (A 11), .int mtolds, .ref (A 12)])), ((A 1), .inl (cy 0, 672, .inl mg)), ((A 2), .inl (cy 0, 672, .inl mkept)), ((A 3), .inl (cy 0, 672, .inl mspare)), ((A 4), .inl (cy 0, 672, .inl mtrial)), ((A 5), .inl (cy 0, 5376, .inl mpast)), ((A 6), .inl (cy 0, 6, .inl mreport)), ((A 7), .inl (cy 0, 5, .inl mpart)), ((A 8), .inl (cy 0, 5, .inl mcome)), ((A 9), .inl (cy 0, 60, .inl morder)), ((A 10), .inl (cy 0, 80, .inl mtext)), ((A 11), .inl (cy 0, 200, .inl mtold)), ((A 12), .inl (cy 0, 672, .inl mahead))] (fun u => [((A 0), .inr (10, [.ref (A 1), .ref (A 2), .ref (A 3), .ref (A 4), .int mhasKept, .ref (A 5), .int mpasts, .ref (A 6), .int mreports, .int mthrown, .ref (A 7), .ref (A 8), .ref (A 9), .int u.1, .int mdetail, .ref (A 10), .int mlength, .int mspot, .int mnumber, .ref (A 11), .int mtolds, .ref (A 12)])), ((A 1), .inl (cy 0, 672, .inl mg)), ((A 2), .inl (cy 0, 672, .inl mkept)), ((A 3), .inl (cy 0, 672, .inl mspare)), ((A 4), .inl (cy 0, 672, .inl mtrial)), ((A 5), .inl (cy 0, 5376, .inl mpast)), ((A 6), .inl (cy 0, 6, .inl mreport)), ((A 7), .inl (cy 0, 5, .inl mpart)), ((A 8), .inl (cy 0, 5, .inl mcome)), ((A 9), .inl (cy 0, 60, .inl u.2)), ((A 10), .inl (cy 0, 80, .inl mtext)), ((A 11), .inl (cy 0, 200, .inl mtold)), ((A 12), .inl (cy 0, 672, .inl mahead))]) post := by
  refine Ctr.of (cc := cX9_orders) (maxL := 3) (ret := none) (lv0 := [(0, .ref (A 0))]) (by decide) rfl (Nat.le_of_ble_eq_true rfl) rfl ?_
  intro X El hR Er Enm ED E En K
  have K : Cx X cX9_orders RX9 wsX9_orders (xTys cy) sd := K
  have E : X.2.2.2.2.2.2.2.2.2.2.1 = xMQ X (fun u : Int32 × XRow => none) post (fun u => [((A 0), .inr (10, [.ref (A 1), .ref (A 2), .ref (A 3), .ref (A 4), .int mhasKept, .ref (A 5), .int mpasts, .ref (A 6), .int mreports, .int mthrown, .ref (A 7), .ref (A 8), .ref (A 9), .int u.1, .int mdetail, .ref (A 10), .int mlength, .int mspot, .int mnumber, .ref (A 11), .int mtolds, .ref (A 12)])), ((A 1), .inl (cy 0, 672, .inl mg)), ((A 2), .inl (cy 0, 672, .inl mkept)), ((A 3), .inl (cy 0, 672, .inl mspare)), ((A 4), .inl (cy 0, 672, .inl mtrial)), ((A 5), .inl (cy 0, 5376, .inl mpast)), ((A 6), .inl (cy 0, 6, .inl mreport)), ((A 7), .inl (cy 0, 5, .inl mpart)), ((A 8), .inl (cy 0, 5, .inl mcome)), ((A 9), .inl (cy 0, 60, .inl u.2)), ((A 10), .inl (cy 0, 80, .inl mtext)), ((A 11), .inl (cy 0, 200, .inl mtold)), ((A 12), .inl (cy 0, 672, .inl mahead))]) 0 0 := E
  unfold wp_X9_orders at hw
  refine g_aload_n K 0 dX9_orders_0 rfl ?_
  refine g_iconst (v := 0) K dX9_orders_1 rfl ?_
  refine g_put (ty := .int) (ws' := [((A 0), .inr (10, [.ref (A 1), .ref (A 2), .ref (A 3), .ref (A 4), .int mhasKept, .ref (A 5), .int mpasts, .ref (A 6), .int mreports, .int mthrown, .ref (A 7), .ref (A 8), .ref (A 9), .int 0, .int mdetail, .ref (A 10), .int mlength, .int mspot, .int mnumber, .ref (A 11), .int mtolds, .ref (A 12)])), ((A 1), .inl (cy 0, 672, .inl mg)), ((A 2), .inl (cy 0, 672, .inl mkept)), ((A 3), .inl (cy 0, 672, .inl mspare)), ((A 4), .inl (cy 0, 672, .inl mtrial)), ((A 5), .inl (cy 0, 5376, .inl mpast)), ((A 6), .inl (cy 0, 6, .inl mreport)), ((A 7), .inl (cy 0, 5, .inl mpart)), ((A 8), .inl (cy 0, 5, .inl mcome)), ((A 9), .inl (cy 0, 60, .inl morder)), ((A 10), .inl (cy 0, 80, .inl mtext)), ((A 11), .inl (cy 0, 200, .inl mtold)), ((A 12), .inl (cy 0, 672, .inl mahead))]) K (C := RX9) (T := TX9) (N := 22) 0 13 in_X9_orders_X9 tyX9 tyX9_ok nmX9 (by decide +kernel) rfl rfl (by decide) rfl (by decide +kernel) rfl rfl (Nat.le_of_ble_eq_true rfl) rfl dX9_orders_2 ?_
  refine g_iconst (v := 0) K dX9_orders_5 rfl ?_
  refine g_istore_n (lv' := [(1, .int 0), (0, .ref (A 0))]) K dX9_orders_6 rfl (by rw [En]; decide) rfl ?_
  obtain ⟨fl, hw⟩ := hw
  have key : ∀ (k7_102 : Int32 → Int32 → XRow → Prop), (∀ (v1 : Int32) (v2 : Int32) (v3 : XRow), k7_102 v1 v2 v3 → Gx X 0 0 [((A 0), .inr (10, [.ref (A 1), .ref (A 2), .ref (A 3), .ref (A 4), .int mhasKept, .ref (A 5), .int mpasts, .ref (A 6), .int mreports, .int mthrown, .ref (A 7), .ref (A 8), .ref (A 9), .int v2, .int mdetail, .ref (A 10), .int mlength, .int mspot, .int mnumber, .ref (A 11), .int mtolds, .ref (A 12)])), ((A 1), .inl (cy 0, 672, .inl mg)), ((A 2), .inl (cy 0, 672, .inl mkept)), ((A 3), .inl (cy 0, 672, .inl mspare)), ((A 4), .inl (cy 0, 672, .inl mtrial)), ((A 5), .inl (cy 0, 5376, .inl mpast)), ((A 6), .inl (cy 0, 6, .inl mreport)), ((A 7), .inl (cy 0, 5, .inl mpart)), ((A 8), .inl (cy 0, 5, .inl mcome)), ((A 9), .inl (cy 0, 60, .inl v3)), ((A 10), .inl (cy 0, 80, .inl mtext)), ((A 11), .inl (cy 0, 200, .inl mtold)), ((A 12), .inl (cy 0, 672, .inl mahead))] [(1, .int v1), (0, .ref (A 0))] 102 []) → ∀ (n : Nat) (v1 : Int32) (v2 : Int32) (v3 : XRow), wp_X9_orders_L7 mg k7_102 n v1 v2 v3 → Gx X 0 0 [((A 0), .inr (10, [.ref (A 1), .ref (A 2), .ref (A 3), .ref (A 4), .int mhasKept, .ref (A 5), .int mpasts, .ref (A 6), .int mreports, .int mthrown, .ref (A 7), .ref (A 8), .ref (A 9), .int v2, .int mdetail, .ref (A 10), .int mlength, .int mspot, .int mnumber, .ref (A 11), .int mtolds, .ref (A 12)])), ((A 1), .inl (cy 0, 672, .inl mg)), ((A 2), .inl (cy 0, 672, .inl mkept)), ((A 3), .inl (cy 0, 672, .inl mspare)), ((A 4), .inl (cy 0, 672, .inl mtrial)), ((A 5), .inl (cy 0, 5376, .inl mpast)), ((A 6), .inl (cy 0, 6, .inl mreport)), ((A 7), .inl (cy 0, 5, .inl mpart)), ((A 8), .inl (cy 0, 5, .inl mcome)), ((A 9), .inl (cy 0, 60, .inl v3)), ((A 10), .inl (cy 0, 80, .inl mtext)), ((A 11), .inl (cy 0, 200, .inl mtold)), ((A 12), .inl (cy 0, 672, .inl mahead))] [(1, .int v1), (0, .ref (A 0))] 7 [] := by
    intro k7_102 hx102 n
    induction n with
    | zero => intro v1 v2 v3 hw; exact hw.elim
    | succ n ih =>
      intro v1 v2 v3 hw
      refine g_iload_n K 0 dX9_orders_7 rfl ?_
      refine g_aload_n K 1 dX9_orders_8 rfl ?_
      refine g_get K (C := RX9) (T := TX9) (N := 22) 0 0 in_X9_orders_X9 (by decide +kernel) rfl rfl (by decide) rfl dX9_orders_9 ?_
      refine g_iconst (v := 2) K dX9_orders_12 rfl ?_
      refine g_iald K 1 0 rfl rfl hw.1 dX9_orders_13 ?_
      replace hw := hw.2
      refine g_icmp_ge (tgt := 102) K dX9_orders_14 (by decide) (fun hc => ?_) (fun hc => ?_)
      · replace hw := hw.1 hc
        exact hx102 _ _ _ hw
      · replace hw := hw.2 hc
        refine g_aload_n K 1 dX9_orders_17 rfl ?_
        refine g_get K (C := RX9) (T := TX9) (N := 22) 0 0 in_X9_orders_X9 (by decide +kernel) rfl rfl (by decide) rfl dX9_orders_18 ?_
        refine g_iload_n K 0 dX9_orders_21 rfl ?_
        refine g_bipush (v := 7) K dX9_orders_22 rfl ?_
        refine g_callSr (st' := fun u4 => [.int u4, .ref (A 1)]) K hR [.int v1, .int 7] [.ref (A 1)] (c_X9_baleAt X.2.1 (gxD X) cy sd v1 7 hw) gX9_orders_X9_baleAt rfl yok_X9_baleAt rfl (by decide) rfl (Nat.le_of_ble_eq_true rfl) dX9_orders_24 [] rfl (by decide) (fun _ => rfl) ⟨rfl, rfl⟩ (fun u4 hw => ?_)
        refine g_iald K 1 0 rfl rfl hw.1 dX9_orders_27 ?_
        replace hw := hw.2
        refine g_if_eq (tgt := 34) K dX9_orders_28 (by decide) (fun hc => ?_) (fun hc => ?_)
        · replace hw := hw.1 hc
          refine g_aload_n K 1 dX9_orders_34 rfl ?_
          refine g_get K (C := RX9) (T := TX9) (N := 22) 0 13 in_X9_orders_X9 (by decide +kernel) rfl rfl (by decide) rfl dX9_orders_35 ?_
          refine g_istore_n (lv' := [(2, .int v2), (1, .int v1), (0, .ref (A 0))]) K dX9_orders_38 rfl (by rw [En]; decide) rfl ?_
          obtain ⟨fl, hw⟩ := hw
          have key : ∀ (k39_79 : Int32 → XRow → Prop), (∀ (v5 : Int32) (v6 : XRow), k39_79 v5 v6 → Gx X 0 0 [((A 0), .inr (10, [.ref (A 1), .ref (A 2), .ref (A 3), .ref (A 4), .int mhasKept, .ref (A 5), .int mpasts, .ref (A 6), .int mreports, .int mthrown, .ref (A 7), .ref (A 8), .ref (A 9), .int v2, .int mdetail, .ref (A 10), .int mlength, .int mspot, .int mnumber, .ref (A 11), .int mtolds, .ref (A 12)])), ((A 1), .inl (cy 0, 672, .inl mg)), ((A 2), .inl (cy 0, 672, .inl mkept)), ((A 3), .inl (cy 0, 672, .inl mspare)), ((A 4), .inl (cy 0, 672, .inl mtrial)), ((A 5), .inl (cy 0, 5376, .inl mpast)), ((A 6), .inl (cy 0, 6, .inl mreport)), ((A 7), .inl (cy 0, 5, .inl mpart)), ((A 8), .inl (cy 0, 5, .inl mcome)), ((A 9), .inl (cy 0, 60, .inl v6)), ((A 10), .inl (cy 0, 80, .inl mtext)), ((A 11), .inl (cy 0, 200, .inl mtold)), ((A 12), .inl (cy 0, 672, .inl mahead))] [(2, .int v5), (1, .int v1), (0, .ref (A 0))] 79 []) → ∀ (n : Nat) (v5 : Int32) (v6 : XRow), wp_X9_orders_L39 mg v1 k39_79 n v5 v6 → Gx X 0 0 [((A 0), .inr (10, [.ref (A 1), .ref (A 2), .ref (A 3), .ref (A 4), .int mhasKept, .ref (A 5), .int mpasts, .ref (A 6), .int mreports, .int mthrown, .ref (A 7), .ref (A 8), .ref (A 9), .int v2, .int mdetail, .ref (A 10), .int mlength, .int mspot, .int mnumber, .ref (A 11), .int mtolds, .ref (A 12)])), ((A 1), .inl (cy 0, 672, .inl mg)), ((A 2), .inl (cy 0, 672, .inl mkept)), ((A 3), .inl (cy 0, 672, .inl mspare)), ((A 4), .inl (cy 0, 672, .inl mtrial)), ((A 5), .inl (cy 0, 5376, .inl mpast)), ((A 6), .inl (cy 0, 6, .inl mreport)), ((A 7), .inl (cy 0, 5, .inl mpart)), ((A 8), .inl (cy 0, 5, .inl mcome)), ((A 9), .inl (cy 0, 60, .inl v6)), ((A 10), .inl (cy 0, 80, .inl mtext)), ((A 11), .inl (cy 0, 200, .inl mtold)), ((A 12), .inl (cy 0, 672, .inl mahead))] [(2, .int v5), (1, .int v1), (0, .ref (A 0))] 39 [] := by
            intro k39_79 hx79 n
            induction n with
            | zero => intro v5 v6 hw; exact hw.elim
            | succ n ih =>
              intro v5 v6 hw
              refine g_iload_n K 0 dX9_orders_39 rfl ?_
              refine g_if_le (tgt := 79) K dX9_orders_40 (by decide) (fun hc => ?_) (fun hc => ?_)
              · replace hw := hw.1 hc
                exact hx79 _ _ hw
              · replace hw := hw.2 hc
                refine g_aload_n K 2 dX9_orders_43 rfl ?_
                refine g_iload_n K 1 dX9_orders_44 rfl ?_
                refine g_aload_n K 2 dX9_orders_45 rfl ?_
                refine g_get K (C := RX9) (T := TX9) (N := 22) 0 12 in_X9_orders_X9 (by decide +kernel) rfl rfl (by decide) rfl dX9_orders_46 ?_
                refine g_iload_n K 0 dX9_orders_49 rfl ?_
                refine g_iconst (v := 1) K dX9_orders_50 rfl ?_
                refine g_isub K dX9_orders_51 ?_
                refine g_iald K 9 0 rfl rfl hw.1 dX9_orders_52 ?_
                replace hw := hw.2
                refine g_callVr (st' := fun u7 => [.int (bI u7)]) K hR [.int v1, .int (v6 (v5 - 1).toNatClampNeg)] [] 0 rfl rfl (c_X9_isAhead X.2.1 (gxD X) cy sd A mg mkept mspare mtrial mpast mreport mpart mcome v6 mtext mtold mahead mhasKept mpasts mreports mthrown v2 mdetail mlength mspot mnumber mtolds v1 (v6 (v5 - 1).toNatClampNeg) hw) gX9_orders_X9_isAhead rfl yok_X9_isAhead rfl rfl (by decide) rfl (Nat.le_of_ble_eq_true rfl) dX9_orders_53 [0, 1, 2, 3, 4, 5, 6, 7, 8, 9, 10, 11, 12] rfl (by decide) (fun _ => rfl) ⟨rfl, rfl⟩ (fun u7 hw => ?_)
                refine g_ifb_eq (tgt := 79) K dX9_orders_56 (by decide) (fun hc => ?_) (fun hc => ?_)
                · replace hw := hw.2 hc
                  exact hx79 _ _ hw
                · replace hw := hw.1 hc
                  refine g_aload_n K 2 dX9_orders_59 rfl ?_
                  refine g_get K (C := RX9) (T := TX9) (N := 22) 0 12 in_X9_orders_X9 (by decide +kernel) rfl rfl (by decide) rfl dX9_orders_60 ?_
                  refine g_iload_n K 0 dX9_orders_63 rfl ?_
                  refine g_aload_n K 2 dX9_orders_64 rfl ?_
                  refine g_get K (C := RX9) (T := TX9) (N := 22) 0 12 in_X9_orders_X9 (by decide +kernel) rfl rfl (by decide) rfl dX9_orders_65 ?_
                  refine g_iload_n K 0 dX9_orders_68 rfl ?_
                  refine g_iconst (v := 1) K dX9_orders_69 rfl ?_
                  refine g_isub K dX9_orders_70 ?_
                  refine g_iald K 9 0 rfl rfl hw.1 dX9_orders_71 ?_
                  replace hw := hw.2
                  refine g_iast (ws' := [((A 0), .inr (10, [.ref (A 1), .ref (A 2), .ref (A 3), .ref (A 4), .int mhasKept, .ref (A 5), .int mpasts, .ref (A 6), .int mreports, .int mthrown, .ref (A 7), .ref (A 8), .ref (A 9), .int v2, .int mdetail, .ref (A 10), .int mlength, .int mspot, .int mnumber, .ref (A 11), .int mtolds, .ref (A 12)])), ((A 1), .inl (cy 0, 672, .inl mg)), ((A 2), .inl (cy 0, 672, .inl mkept)), ((A 3), .inl (cy 0, 672, .inl mspare)), ((A 4), .inl (cy 0, 672, .inl mtrial)), ((A 5), .inl (cy 0, 5376, .inl mpast)), ((A 6), .inl (cy 0, 6, .inl mreport)), ((A 7), .inl (cy 0, 5, .inl mpart)), ((A 8), .inl (cy 0, 5, .inl mcome)), ((A 9), .inl (cy 0, 60, .inl (upd v6 (v5).toNatClampNeg (v6 (v5 - 1).toNatClampNeg)))), ((A 10), .inl (cy 0, 80, .inl mtext)), ((A 11), .inl (cy 0, 200, .inl mtold)), ((A 12), .inl (cy 0, 672, .inl mahead))]) K 9 0 rfl rfl hw.1 rfl dX9_orders_72 ?_
                  replace hw := hw.2
                  obtain ⟨x8, ex8⟩ : ∃ z : Int32, z = v5 + (-1) := ⟨_, rfl⟩
                  replace hw := hw x8 ex8
                  refine g_iinc (v := x8) (lv' := [(2, .int x8), (1, .int v1), (0, .ref (A 0))]) K 0 dX9_orders_73 rfl (by rw [ex8]; rfl) (by rw [En]; decide) rfl ?_
                  refine g_goto (tgt := 39) K dX9_orders_76 (by decide) ?_
                  exact ih _ _ hw
          refine key _ (fun v9 v10 hw => ?_) fl _ _ hw
          refine g_aload_n K 2 dX9_orders_79 rfl ?_
          refine g_get K (C := RX9) (T := TX9) (N := 22) 0 12 in_X9_orders_X9 (by decide +kernel) rfl rfl (by decide) rfl dX9_orders_80 ?_
          refine g_iload_n K 0 dX9_orders_83 rfl ?_
          refine g_iload_n K 1 dX9_orders_84 rfl ?_
          refine g_iast (ws' := [((A 0), .inr (10, [.ref (A 1), .ref (A 2), .ref (A 3), .ref (A 4), .int mhasKept, .ref (A 5), .int mpasts, .ref (A 6), .int mreports, .int mthrown, .ref (A 7), .ref (A 8), .ref (A 9), .int v2, .int mdetail, .ref (A 10), .int mlength, .int mspot, .int mnumber, .ref (A 11), .int mtolds, .ref (A 12)])), ((A 1), .inl (cy 0, 672, .inl mg)), ((A 2), .inl (cy 0, 672, .inl mkept)), ((A 3), .inl (cy 0, 672, .inl mspare)), ((A 4), .inl (cy 0, 672, .inl mtrial)), ((A 5), .inl (cy 0, 5376, .inl mpast)), ((A 6), .inl (cy 0, 6, .inl mreport)), ((A 7), .inl (cy 0, 5, .inl mpart)), ((A 8), .inl (cy 0, 5, .inl mcome)), ((A 9), .inl (cy 0, 60, .inl (upd v10 (v9).toNatClampNeg v1))), ((A 10), .inl (cy 0, 80, .inl mtext)), ((A 11), .inl (cy 0, 200, .inl mtold)), ((A 12), .inl (cy 0, 672, .inl mahead))]) K 9 0 rfl rfl hw.1 rfl dX9_orders_85 ?_
          replace hw := hw.2
          refine g_aload_n K 2 dX9_orders_86 rfl ?_
          refine g_dup K dX9_orders_87 rfl ?_
          refine g_get K (C := RX9) (T := TX9) (N := 22) 0 13 in_X9_orders_X9 (by decide +kernel) rfl rfl (by decide) rfl dX9_orders_88 ?_
          refine g_iconst (v := 1) K dX9_orders_91 rfl ?_
          refine g_iadd K dX9_orders_92 ?_
          refine g_topi (fun x11 ex11 => ?_)
          replace hw := hw x11 ex11
          refine g_put (ty := .int) (ws' := [((A 0), .inr (10, [.ref (A 1), .ref (A 2), .ref (A 3), .ref (A 4), .int mhasKept, .ref (A 5), .int mpasts, .ref (A 6), .int mreports, .int mthrown, .ref (A 7), .ref (A 8), .ref (A 9), .int x11, .int mdetail, .ref (A 10), .int mlength, .int mspot, .int mnumber, .ref (A 11), .int mtolds, .ref (A 12)])), ((A 1), .inl (cy 0, 672, .inl mg)), ((A 2), .inl (cy 0, 672, .inl mkept)), ((A 3), .inl (cy 0, 672, .inl mspare)), ((A 4), .inl (cy 0, 672, .inl mtrial)), ((A 5), .inl (cy 0, 5376, .inl mpast)), ((A 6), .inl (cy 0, 6, .inl mreport)), ((A 7), .inl (cy 0, 5, .inl mpart)), ((A 8), .inl (cy 0, 5, .inl mcome)), ((A 9), .inl (cy 0, 60, .inl (upd v10 (v9).toNatClampNeg v1))), ((A 10), .inl (cy 0, 80, .inl mtext)), ((A 11), .inl (cy 0, 200, .inl mtold)), ((A 12), .inl (cy 0, 672, .inl mahead))]) K (C := RX9) (T := TX9) (N := 22) 0 13 in_X9_orders_X9 tyX9 tyX9_ok nmX9 (by decide +kernel) rfl rfl (by decide) rfl (by decide +kernel) rfl rfl (Nat.le_of_ble_eq_true rfl) rfl dX9_orders_93 ?_
          obtain ⟨x12, ex12⟩ : ∃ z : Int32, z = v1 + 1 := ⟨_, rfl⟩
          replace hw := hw x12 ex12
          refine g_iinc (v := x12) (lv' := [(1, .int x12), (2, .int v9), (0, .ref (A 0))]) K 1 dX9_orders_96 rfl (by rw [ex12]; rfl) (by rw [En]; decide) rfl ?_
          refine g_goto (tgt := 7) K dX9_orders_99 (by decide) ?_
          refine gx_locals [0, 2] rfl ?_
          exact ih _ _ _ hw
        · replace hw := hw.2 hc
          refine g_goto (tgt := 96) K dX9_orders_31 (by decide) ?_
          obtain ⟨x13, ex13⟩ : ∃ z : Int32, z = v1 + 1 := ⟨_, rfl⟩
          replace hw := hw x13 ex13
          refine g_iinc (v := x13) (lv' := [(1, .int x13), (0, .ref (A 0))]) K 0 dX9_orders_96 rfl (by rw [ex13]; rfl) (by rw [En]; decide) rfl ?_
          refine g_goto (tgt := 7) K dX9_orders_99 (by decide) ?_
          exact ih _ _ _ hw
  refine key _ (fun v14 v15 v16 hw => ?_) fl _ _ _ hw
  exact g_vret K E Er (v15, v16) hw rfl rfl (Nat.le_refl _) (Nat.le_refl _) dX9_orders_102

def wp_X9_ordered (mg : XRow) (morder : XRow) (p0 : Int32) (post : (Int32 × Int32 × Int32 × XRow) → Prop) : Prop := wp_X9_orders mg morder (fun u1 : Int32 × XRow => wp_X9_in p0 0 (u1.1 - 1) (fun u2 : Bool => (u2 = true → (vp_in p0 60 ∧ (post (u1.2 (p0).toNatClampNeg, 0, u1.1, u1.2)))) ∧ (u2 = false → (post (0, 1, u1.1, u1.2)))))
theorem in_X9_ordered_X9 : ∀ w ∈ u_ws RX9 TX9 22, w ∈ wsX9_ordered := by decide +kernel
set_option maxRecDepth 100000 in
set_option maxHeartbeats 4000000 in
theorem c_X9_ordered (l : Launch) (D : va_G) (cy : Nat → ClassId) (sd : xSd) (A : Nat → Nat) (mg : XRow) (mkept : XRow) (mspare : XRow) (mtrial : XRow) (mpast : XRow) (mreport : XRow) (mpart : XRow) (mcome : XRow) (morder : XRow) (mtext : XRow) (mtold : XRow) (mahead : XRow) (mhasKept : Int32) (mpasts : Int32) (mreports : Int32) (mthrown : Int32) (mordering : Int32) (mdetail : Int32) (mlength : Int32) (mspot : Int32) (mnumber : Int32) (mtolds : Int32) (p0 : Int32) {post : (Int32 × Int32 × Int32 × XRow) → Prop} (hw : wp_X9_ordered mg morder p0 post) : Ctr l D (xTys cy) sd yX9_ordered wsX9_ordered ({ frames := 3, cells := 0, slots := 0, locals := 65 } : Room) [.ref (A 0), .int p0] (fun u : Int32 × Int32 × Int32 × XRow => some (.int u.1)) [((A 0), .inr (10, [.ref (A 1), .ref (A 2), .ref (A 3), .ref (A 4), .int mhasKept, .ref (A 5), .int mpasts, .ref (A 6), .int mreports, .int mthrown, .ref (A 7), .ref (A 8), .ref (A 9), .int mordering, .int mdetail, .ref (A 10), .int mlength, .int mspot, .int mnumber, .ref (A 11), .int mtolds, .ref (A 12)])), ((A 1), .inl (cy 0, 672, .inl mg)), ((A 2), .inl (cy 0, 672, .inl mkept)), ((A 3), .inl (cy 0, 672, .inl mspare)), ((A 4), .inl (cy 0, 672, .inl mtrial)), ((A 5), .inl (cy 0, 5376, .inl mpast)), ((A 6), .inl (cy 0, 6, .inl mreport)), ((A 7), .inl (cy 0, 5, .inl mpart)), ((A 8), .inl (cy 0, 5, .inl mcome)), ((A 9), .inl (cy 0, 60, .inl morder)), ((A 10), .inl (cy 0, 80, .inl mtext)), ((A 11), .inl (cy 0, 200, .inl mtold)), ((A 12), .inl (cy 0, 672, .inl mahead))] (fun u => [((A 0), .inr (10, [.ref (A 1), .ref (A 2), .ref (A 3), .ref (A 4), .int mhasKept, .ref (A 5), .int mpasts, .ref (A 6), .int mreports, .int u.2.1, .ref (A 7), .ref (A 8), .ref (A 9), .int u.2.2.1, .int mdetail, .ref (A 10), .int mlength, .int mspot, .int mnumber, .ref (A 11), .int mtolds, .ref (A 12)])), ((A 1), .inl (cy 0, 672, .inl mg)), ((A 2), .inl (cy 0, 672, .inl mkept)), ((A 3), .inl (cy 0, 672, .inl mspare)), ((A 4), .inl (cy 0, 672, .inl mtrial)), ((A 5), .inl (cy 0, 5376, .inl mpast)), ((A 6), .inl (cy 0, 6, .inl mreport)), ((A 7), .inl (cy 0, 5, .inl mpart)), ((A 8), .inl (cy 0, 5, .inl mcome)), ((A 9), .inl (cy 0, 60, .inl u.2.2.2)), ((A 10), .inl (cy 0, 80, .inl mtext)), ((A 11), .inl (cy 0, 200, .inl mtold)), ((A 12), .inl (cy 0, 672, .inl mahead))]) post := by
  refine Ctr.of (cc := cX9_ordered) (maxL := 2) (ret := (some .int)) (lv0 := [(0, .ref (A 0)), (1, .int p0)]) (by decide) rfl (Nat.le_of_ble_eq_true rfl) rfl ?_
  intro X El hR Er Enm ED E En K
  have K : Cx X cX9_ordered RX9 wsX9_ordered (xTys cy) sd := K
  have E : X.2.2.2.2.2.2.2.2.2.2.1 = xMQ X (fun u : Int32 × Int32 × Int32 × XRow => some (.int u.1)) post (fun u => [((A 0), .inr (10, [.ref (A 1), .ref (A 2), .ref (A 3), .ref (A 4), .int mhasKept, .ref (A 5), .int mpasts, .ref (A 6), .int mreports, .int u.2.1, .ref (A 7), .ref (A 8), .ref (A 9), .int u.2.2.1, .int mdetail, .ref (A 10), .int mlength, .int mspot, .int mnumber, .ref (A 11), .int mtolds, .ref (A 12)])), ((A 1), .inl (cy 0, 672, .inl mg)), ((A 2), .inl (cy 0, 672, .inl mkept)), ((A 3), .inl (cy 0, 672, .inl mspare)), ((A 4), .inl (cy 0, 672, .inl mtrial)), ((A 5), .inl (cy 0, 5376, .inl mpast)), ((A 6), .inl (cy 0, 6, .inl mreport)), ((A 7), .inl (cy 0, 5, .inl mpart)), ((A 8), .inl (cy 0, 5, .inl mcome)), ((A 9), .inl (cy 0, 60, .inl u.2.2.2)), ((A 10), .inl (cy 0, 80, .inl mtext)), ((A 11), .inl (cy 0, 200, .inl mtold)), ((A 12), .inl (cy 0, 672, .inl mahead))]) 0 0 := E
  unfold wp_X9_ordered at hw
  refine g_aload_n K 0 dX9_ordered_0 rfl ?_
  refine g_callV (st' := fun u1 => []) (ws' := fun u1 => [((A 0), .inr (10, [.ref (A 1), .ref (A 2), .ref (A 3), .ref (A 4), .int mhasKept, .ref (A 5), .int mpasts, .ref (A 6), .int mreports, .int mthrown, .ref (A 7), .ref (A 8), .ref (A 9), .int u1.1, .int mdetail, .ref (A 10), .int mlength, .int mspot, .int mnumber, .ref (A 11), .int mtolds, .ref (A 12)])), ((A 1), .inl (cy 0, 672, .inl mg)), ((A 2), .inl (cy 0, 672, .inl mkept)), ((A 3), .inl (cy 0, 672, .inl mspare)), ((A 4), .inl (cy 0, 672, .inl mtrial)), ((A 5), .inl (cy 0, 5376, .inl mpast)), ((A 6), .inl (cy 0, 6, .inl mreport)), ((A 7), .inl (cy 0, 5, .inl mpart)), ((A 8), .inl (cy 0, 5, .inl mcome)), ((A 9), .inl (cy 0, 60, .inl u1.2)), ((A 10), .inl (cy 0, 80, .inl mtext)), ((A 11), .inl (cy 0, 200, .inl mtold)), ((A 12), .inl (cy 0, 672, .inl mahead))]) K hR [] [] 0 rfl rfl (c_X9_orders X.2.1 (gxD X) cy sd A mg mkept mspare mtrial mpast mreport mpart mcome morder mtext mtold mahead mhasKept mpasts mreports mthrown mordering mdetail mlength mspot mnumber mtolds hw) gX9_ordered_X9_orders rfl yok_X9_orders rfl rfl (by decide) rfl (Nat.le_of_ble_eq_true rfl) dX9_ordered_1 [0, 1, 2, 3, 4, 5, 6, 7, 8, 9, 10, 11, 12] rfl (by decide) (fun _ => rfl) (fun _ => rfl) (fun _ => rfl) ⟨rfl, rfl⟩ (fun u1 hw => ?_)
  refine g_aload_n K 0 dX9_ordered_4 rfl ?_
  refine g_iload_n K 1 dX9_ordered_5 rfl ?_
  refine g_iconst (v := 0) K dX9_ordered_6 rfl ?_
  refine g_aload_n K 0 dX9_ordered_7 rfl ?_
  refine g_get K (C := RX9) (T := TX9) (N := 22) 0 13 in_X9_ordered_X9 (by decide +kernel) rfl rfl (by decide) rfl dX9_ordered_8 ?_
  refine g_iconst (v := 1) K dX9_ordered_11 rfl ?_
  refine g_isub K dX9_ordered_12 ?_
  refine g_callSr (st' := fun u2 => [.int (bI u2), .ref (A 0)]) K hR [.int p0, .int 0, .int (u1.1 - 1)] [.ref (A 0)] (c_X9_in X.2.1 (gxD X) cy sd p0 0 (u1.1 - 1) hw) gX9_ordered_X9_in rfl yok_X9_in rfl (by decide) rfl (Nat.le_of_ble_eq_true rfl) dX9_ordered_13 [] rfl (by decide) (fun _ => rfl) ⟨rfl, rfl⟩ (fun u2 hw => ?_)
  refine g_ifb_eq (tgt := 23) K dX9_ordered_16 (by decide) (fun hc => ?_) (fun hc => ?_)
  · replace hw := hw.2 hc
    refine g_iconst (v := 1) K dX9_ordered_23 rfl ?_
    refine g_put (ty := .int) (ws' := [((A 0), .inr (10, [.ref (A 1), .ref (A 2), .ref (A 3), .ref (A 4), .int mhasKept, .ref (A 5), .int mpasts, .ref (A 6), .int mreports, .int 1, .ref (A 7), .ref (A 8), .ref (A 9), .int u1.1, .int mdetail, .ref (A 10), .int mlength, .int mspot, .int mnumber, .ref (A 11), .int mtolds, .ref (A 12)])), ((A 1), .inl (cy 0, 672, .inl mg)), ((A 2), .inl (cy 0, 672, .inl mkept)), ((A 3), .inl (cy 0, 672, .inl mspare)), ((A 4), .inl (cy 0, 672, .inl mtrial)), ((A 5), .inl (cy 0, 5376, .inl mpast)), ((A 6), .inl (cy 0, 6, .inl mreport)), ((A 7), .inl (cy 0, 5, .inl mpart)), ((A 8), .inl (cy 0, 5, .inl mcome)), ((A 9), .inl (cy 0, 60, .inl u1.2)), ((A 10), .inl (cy 0, 80, .inl mtext)), ((A 11), .inl (cy 0, 200, .inl mtold)), ((A 12), .inl (cy 0, 672, .inl mahead))]) K (C := RX9) (T := TX9) (N := 22) 0 9 in_X9_ordered_X9 tyX9 tyX9_ok nmX9 (by decide +kernel) rfl rfl (by decide) rfl (by decide +kernel) rfl rfl (Nat.le_of_ble_eq_true rfl) rfl dX9_ordered_24 ?_
    refine g_aload_n K 0 dX9_ordered_27 rfl ?_
    refine g_get K (C := RX9) (T := TX9) (N := 22) 0 9 in_X9_ordered_X9 (by decide +kernel) rfl rfl (by decide) rfl dX9_ordered_28 ?_
    refine g_if_le (tgt := 38) K dX9_ordered_31 (by decide) (fun hc => absurd hc (by decide)) (fun _ => ?_)
    refine g_iconst (v := 0) K dX9_ordered_34 rfl ?_
    refine g_goto (tgt := 44) K dX9_ordered_35 (by decide) ?_
    exact g_zret K E Er (0, 1, u1.1, u1.2) hw rfl rfl rfl (Nat.le_refl _) (Nat.le_refl _) dX9_ordered_44
  · replace hw := hw.1 hc
    refine g_iconst (v := 0) K dX9_ordered_19 rfl ?_
    refine g_goto (tgt := 24) K dX9_ordered_20 (by decide) ?_
    refine g_put (ty := .int) (ws' := [((A 0), .inr (10, [.ref (A 1), .ref (A 2), .ref (A 3), .ref (A 4), .int mhasKept, .ref (A 5), .int mpasts, .ref (A 6), .int mreports, .int 0, .ref (A 7), .ref (A 8), .ref (A 9), .int u1.1, .int mdetail, .ref (A 10), .int mlength, .int mspot, .int mnumber, .ref (A 11), .int mtolds, .ref (A 12)])), ((A 1), .inl (cy 0, 672, .inl mg)), ((A 2), .inl (cy 0, 672, .inl mkept)), ((A 3), .inl (cy 0, 672, .inl mspare)), ((A 4), .inl (cy 0, 672, .inl mtrial)), ((A 5), .inl (cy 0, 5376, .inl mpast)), ((A 6), .inl (cy 0, 6, .inl mreport)), ((A 7), .inl (cy 0, 5, .inl mpart)), ((A 8), .inl (cy 0, 5, .inl mcome)), ((A 9), .inl (cy 0, 60, .inl u1.2)), ((A 10), .inl (cy 0, 80, .inl mtext)), ((A 11), .inl (cy 0, 200, .inl mtold)), ((A 12), .inl (cy 0, 672, .inl mahead))]) K (C := RX9) (T := TX9) (N := 22) 0 9 in_X9_ordered_X9 tyX9 tyX9_ok nmX9 (by decide +kernel) rfl rfl (by decide) rfl (by decide +kernel) rfl rfl (Nat.le_of_ble_eq_true rfl) rfl dX9_ordered_24 ?_
    refine g_aload_n K 0 dX9_ordered_27 rfl ?_
    refine g_get K (C := RX9) (T := TX9) (N := 22) 0 9 in_X9_ordered_X9 (by decide +kernel) rfl rfl (by decide) rfl dX9_ordered_28 ?_
    refine g_if_le (tgt := 38) K dX9_ordered_31 (by decide) (fun _ => ?_) (fun hc => absurd (by decide) hc)
    refine g_aload_n K 0 dX9_ordered_38 rfl ?_
    refine g_get K (C := RX9) (T := TX9) (N := 22) 0 12 in_X9_ordered_X9 (by decide +kernel) rfl rfl (by decide) rfl dX9_ordered_39 ?_
    refine g_iload_n K 1 dX9_ordered_42 rfl ?_
    refine g_iald K 9 0 rfl rfl hw.1 dX9_ordered_43 ?_
    replace hw := hw.2
    exact g_zret K E Er (u1.2 (p0).toNatClampNeg, 0, u1.1, u1.2) hw rfl rfl rfl (Nat.le_refl _) (Nat.le_refl _) dX9_ordered_44

def wp_X9_stock_L34 (mg : XRow) (k34_111 : Int32 → Int32 → Prop) : Nat → Int32 → Int32 → Prop
  | 0, _, _ => False
  | fu + 1, v2, v3 => vp_in 2 672 ∧ (((mg ((2 : Int32).toNatClampNeg)) ≤ v2 → (k34_111 v2 v3)) ∧ (¬ (mg ((2 : Int32).toNatClampNeg)) ≤ v2 → (k34_111 v2 v3)))
def wp_X9_stock_L34_1 (mg : XRow) (k34_111 : Int32 → Int32 → Prop) : Nat → Int32 → Int32 → Prop
  | 0, _, _ => False
  | fu + 1, v7, v8 => vp_in 2 672 ∧ (((mg ((2 : Int32).toNatClampNeg)) ≤ v7 → (k34_111 v7 v8)) ∧ (¬ (mg ((2 : Int32).toNatClampNeg)) ≤ v7 → (k34_111 v7 v8)))
def wp_X9_stock_L34_2 (mg : XRow) (p0 : Int32) (p1 : Int32) (k34_111 : Int32 → Int32 → Prop) : Nat → Int32 → Int32 → Prop
  | 0, _, _ => False
  | fu + 1, v11, v12 => vp_in 2 672 ∧ (((mg ((2 : Int32).toNatClampNeg)) ≤ v11 → (k34_111 v11 v12)) ∧ (¬ (mg ((2 : Int32).toNatClampNeg)) ≤ v11 → (wp_X9_baleAt v11 7 (fun u13 : Int32 => vp_in u13 672 ∧ (((mg (u13).toNatClampNeg) = 0 → (wp_X9_baleAt v11 5 (fun u16 : Int32 => vp_in u16 672 ∧ (((mg (u16).toNatClampNeg) = p0 → (wp_X9_grade mg v11 (fun u19 : Int32 => (p1 < u19 → (∀ x20 : Int32, x20 = v12 + 0 → (∀ x21 : Int32, x21 = v11 + 1 → (wp_X9_stock_L34_2 mg p0 p1 k34_111 fu x21 x20)))) ∧ (¬ p1 < u19 → (wp_X9_kilosOf mg v11 (fun u22 : Int32 => ∀ x23 : Int32, x23 = v12 + u22 → (∀ x24 : Int32, x24 = v11 + 1 → (wp_X9_stock_L34_2 mg p0 p1 k34_111 fu x24 x23)))))))) ∧ (¬ (mg (u16).toNatClampNeg) = p0 → (∀ x17 : Int32, x17 = v12 + 0 → (∀ x18 : Int32, x18 = v11 + 1 → (wp_X9_stock_L34_2 mg p0 p1 k34_111 fu x18 x17)))))))) ∧ (¬ (mg (u13).toNatClampNeg) = 0 → (∀ x14 : Int32, x14 = v12 + 0 → (∀ x15 : Int32, x15 = v11 + 1 → (wp_X9_stock_L34_2 mg p0 p1 k34_111 fu x15 x14)))))))))
def wp_X9_stock (mg : XRow) (p0 : Int32) (p1 : Int32) (post : (Int32 × Int32) → Prop) : Prop := wp_X9_isMaterial p0 (fun u1 : Bool => (u1 = true → (wp_X9_in p1 0 3 (fun u6 : Bool => (u6 = true → (∃ fl, wp_X9_stock_L34_2 mg p0 p1 (fun (v25 : Int32) (v26 : Int32) => post (v26, 0)) fl 0 0)) ∧ (u6 = false → (∃ fl, wp_X9_stock_L34_1 mg (fun (v9 : Int32) (v10 : Int32) => post (v10, 2)) fl 0 0))))) ∧ (u1 = false → (∃ fl, wp_X9_stock_L34 mg (fun (v4 : Int32) (v5 : Int32) => post (v5, 1)) fl 0 0)))
theorem in_X9_stock_X9 : ∀ w ∈ u_ws RX9 TX9 22, w ∈ wsX9_stock := by decide +kernel
set_option maxRecDepth 100000 in
set_option maxHeartbeats 4000000 in
theorem c_X9_stock (l : Launch) (D : va_G) (cy : Nat → ClassId) (sd : xSd) (A : Nat → Nat) (mg : XRow) (mkept : XRow) (mspare : XRow) (mtrial : XRow) (mpast : XRow) (mreport : XRow) (mpart : XRow) (mcome : XRow) (morder : XRow) (mtext : XRow) (mtold : XRow) (mahead : XRow) (mhasKept : Int32) (mpasts : Int32) (mreports : Int32) (mthrown : Int32) (mordering : Int32) (mdetail : Int32) (mlength : Int32) (mspot : Int32) (mnumber : Int32) (mtolds : Int32) (p0 : Int32) (p1 : Int32) {post : (Int32 × Int32) → Prop} (hw : wp_X9_stock mg p0 p1 post) : Ctr l D (xTys cy) sd yX9_stock wsX9_stock ({ frames := 2, cells := 0, slots := 0, locals := 44 } : Room) [.ref (A 0), .int p0, .int p1] (fun u : Int32 × Int32 => some (.int u.1)) [((A 0), .inr (10, [.ref (A 1), .ref (A 2), .ref (A 3), .ref (A 4), .int mhasKept, .ref (A 5), .int mpasts, .ref (A 6), .int mreports, .int mthrown, .ref (A 7), .ref (A 8), .ref (A 9), .int mordering, .int mdetail, .ref (A 10), .int mlength, .int mspot, .int mnumber, .ref (A 11), .int mtolds, .ref (A 12)])), ((A 1), .inl (cy 0, 672, .inl mg)), ((A 2), .inl (cy 0, 672, .inl mkept)), ((A 3), .inl (cy 0, 672, .inl mspare)), ((A 4), .inl (cy 0, 672, .inl mtrial)), ((A 5), .inl (cy 0, 5376, .inl mpast)), ((A 6), .inl (cy 0, 6, .inl mreport)), ((A 7), .inl (cy 0, 5, .inl mpart)), ((A 8), .inl (cy 0, 5, .inl mcome)), ((A 9), .inl (cy 0, 60, .inl morder)), ((A 10), .inl (cy 0, 80, .inl mtext)), ((A 11), .inl (cy 0, 200, .inl mtold)), ((A 12), .inl (cy 0, 672, .inl mahead))] (fun u => [((A 0), .inr (10, [.ref (A 1), .ref (A 2), .ref (A 3), .ref (A 4), .int mhasKept, .ref (A 5), .int mpasts, .ref (A 6), .int mreports, .int u.2, .ref (A 7), .ref (A 8), .ref (A 9), .int mordering, .int mdetail, .ref (A 10), .int mlength, .int mspot, .int mnumber, .ref (A 11), .int mtolds, .ref (A 12)])), ((A 1), .inl (cy 0, 672, .inl mg)), ((A 2), .inl (cy 0, 672, .inl mkept)), ((A 3), .inl (cy 0, 672, .inl mspare)), ((A 4), .inl (cy 0, 672, .inl mtrial)), ((A 5), .inl (cy 0, 5376, .inl mpast)), ((A 6), .inl (cy 0, 6, .inl mreport)), ((A 7), .inl (cy 0, 5, .inl mpart)), ((A 8), .inl (cy 0, 5, .inl mcome)), ((A 9), .inl (cy 0, 60, .inl morder)), ((A 10), .inl (cy 0, 80, .inl mtext)), ((A 11), .inl (cy 0, 200, .inl mtold)), ((A 12), .inl (cy 0, 672, .inl mahead))]) post := by
  refine Ctr.of (cc := cX9_stock) (maxL := 5) (ret := (some .int)) (lv0 := [(0, .ref (A 0)), (1, .int p0), (2, .int p1)]) (by decide) rfl (Nat.le_of_ble_eq_true rfl) rfl ?_
  intro X El hR Er Enm ED E En K
  have K : Cx X cX9_stock RX9 wsX9_stock (xTys cy) sd := K
  have E : X.2.2.2.2.2.2.2.2.2.2.1 = xMQ X (fun u : Int32 × Int32 => some (.int u.1)) post (fun u => [((A 0), .inr (10, [.ref (A 1), .ref (A 2), .ref (A 3), .ref (A 4), .int mhasKept, .ref (A 5), .int mpasts, .ref (A 6), .int mreports, .int u.2, .ref (A 7), .ref (A 8), .ref (A 9), .int mordering, .int mdetail, .ref (A 10), .int mlength, .int mspot, .int mnumber, .ref (A 11), .int mtolds, .ref (A 12)])), ((A 1), .inl (cy 0, 672, .inl mg)), ((A 2), .inl (cy 0, 672, .inl mkept)), ((A 3), .inl (cy 0, 672, .inl mspare)), ((A 4), .inl (cy 0, 672, .inl mtrial)), ((A 5), .inl (cy 0, 5376, .inl mpast)), ((A 6), .inl (cy 0, 6, .inl mreport)), ((A 7), .inl (cy 0, 5, .inl mpart)), ((A 8), .inl (cy 0, 5, .inl mcome)), ((A 9), .inl (cy 0, 60, .inl morder)), ((A 10), .inl (cy 0, 80, .inl mtext)), ((A 11), .inl (cy 0, 200, .inl mtold)), ((A 12), .inl (cy 0, 672, .inl mahead))]) 0 0 := E
  unfold wp_X9_stock at hw
  refine g_aload_n K 0 dX9_stock_0 rfl ?_
  refine g_iload_n K 1 dX9_stock_1 rfl ?_
  refine g_callSr (st' := fun u1 => [.int (bI u1), .ref (A 0)]) K hR [.int p0] [.ref (A 0)] (c_X9_isMaterial X.2.1 (gxD X) cy sd p0 hw) gX9_stock_X9_isMaterial rfl yok_X9_isMaterial rfl (by decide) rfl (Nat.le_of_ble_eq_true rfl) dX9_stock_2 [] rfl (by decide) (fun _ => rfl) ⟨rfl, rfl⟩ (fun u1 hw => ?_)
  refine g_ifb_eq (tgt := 25) K dX9_stock_5 (by decide) (fun hc => ?_) (fun hc => ?_)
  · replace hw := hw.2 hc
    refine g_iconst (v := 1) K dX9_stock_25 rfl ?_
    refine g_put (ty := .int) (ws' := [((A 0), .inr (10, [.ref (A 1), .ref (A 2), .ref (A 3), .ref (A 4), .int mhasKept, .ref (A 5), .int mpasts, .ref (A 6), .int mreports, .int 1, .ref (A 7), .ref (A 8), .ref (A 9), .int mordering, .int mdetail, .ref (A 10), .int mlength, .int mspot, .int mnumber, .ref (A 11), .int mtolds, .ref (A 12)])), ((A 1), .inl (cy 0, 672, .inl mg)), ((A 2), .inl (cy 0, 672, .inl mkept)), ((A 3), .inl (cy 0, 672, .inl mspare)), ((A 4), .inl (cy 0, 672, .inl mtrial)), ((A 5), .inl (cy 0, 5376, .inl mpast)), ((A 6), .inl (cy 0, 6, .inl mreport)), ((A 7), .inl (cy 0, 5, .inl mpart)), ((A 8), .inl (cy 0, 5, .inl mcome)), ((A 9), .inl (cy 0, 60, .inl morder)), ((A 10), .inl (cy 0, 80, .inl mtext)), ((A 11), .inl (cy 0, 200, .inl mtold)), ((A 12), .inl (cy 0, 672, .inl mahead))]) K (C := RX9) (T := TX9) (N := 22) 0 9 in_X9_stock_X9 tyX9 tyX9_ok nmX9 (by decide +kernel) rfl rfl (by decide) rfl (by decide +kernel) rfl rfl (Nat.le_of_ble_eq_true rfl) rfl dX9_stock_26 ?_
    refine g_iconst (v := 0) K dX9_stock_29 rfl ?_
    refine g_istore_n (lv' := [(3, .int 0), (0, .ref (A 0)), (1, .int p0), (2, .int p1)]) K dX9_stock_30 rfl (by rw [En]; decide) rfl ?_
    refine g_iconst (v := 0) K dX9_stock_31 rfl ?_
    refine g_istore (lv' := [(4, .int 0), (3, .int 0), (0, .ref (A 0)), (1, .int p0), (2, .int p1)]) K dX9_stock_32 (by rw [En]; decide) rfl ?_
    obtain ⟨fl, hw⟩ := hw
    have key : ∀ (k34_111 : Int32 → Int32 → Prop), (∀ (v2 : Int32) (v3 : Int32), k34_111 v2 v3 → Gx X 0 0 [((A 0), .inr (10, [.ref (A 1), .ref (A 2), .ref (A 3), .ref (A 4), .int mhasKept, .ref (A 5), .int mpasts, .ref (A 6), .int mreports, .int 1, .ref (A 7), .ref (A 8), .ref (A 9), .int mordering, .int mdetail, .ref (A 10), .int mlength, .int mspot, .int mnumber, .ref (A 11), .int mtolds, .ref (A 12)])), ((A 1), .inl (cy 0, 672, .inl mg)), ((A 2), .inl (cy 0, 672, .inl mkept)), ((A 3), .inl (cy 0, 672, .inl mspare)), ((A 4), .inl (cy 0, 672, .inl mtrial)), ((A 5), .inl (cy 0, 5376, .inl mpast)), ((A 6), .inl (cy 0, 6, .inl mreport)), ((A 7), .inl (cy 0, 5, .inl mpart)), ((A 8), .inl (cy 0, 5, .inl mcome)), ((A 9), .inl (cy 0, 60, .inl morder)), ((A 10), .inl (cy 0, 80, .inl mtext)), ((A 11), .inl (cy 0, 200, .inl mtold)), ((A 12), .inl (cy 0, 672, .inl mahead))] [(4, .int v2), (3, .int v3), (0, .ref (A 0)), (1, .int p0), (2, .int p1)] 111 []) → ∀ (n : Nat) (v2 : Int32) (v3 : Int32), wp_X9_stock_L34 mg k34_111 n v2 v3 → Gx X 0 0 [((A 0), .inr (10, [.ref (A 1), .ref (A 2), .ref (A 3), .ref (A 4), .int mhasKept, .ref (A 5), .int mpasts, .ref (A 6), .int mreports, .int 1, .ref (A 7), .ref (A 8), .ref (A 9), .int mordering, .int mdetail, .ref (A 10), .int mlength, .int mspot, .int mnumber, .ref (A 11), .int mtolds, .ref (A 12)])), ((A 1), .inl (cy 0, 672, .inl mg)), ((A 2), .inl (cy 0, 672, .inl mkept)), ((A 3), .inl (cy 0, 672, .inl mspare)), ((A 4), .inl (cy 0, 672, .inl mtrial)), ((A 5), .inl (cy 0, 5376, .inl mpast)), ((A 6), .inl (cy 0, 6, .inl mreport)), ((A 7), .inl (cy 0, 5, .inl mpart)), ((A 8), .inl (cy 0, 5, .inl mcome)), ((A 9), .inl (cy 0, 60, .inl morder)), ((A 10), .inl (cy 0, 80, .inl mtext)), ((A 11), .inl (cy 0, 200, .inl mtold)), ((A 12), .inl (cy 0, 672, .inl mahead))] [(4, .int v2), (3, .int v3), (0, .ref (A 0)), (1, .int p0), (2, .int p1)] 34 [] := by
      intro k34_111 hx111 n
      induction n with
      | zero => intro v2 v3 hw; exact hw.elim
      | succ n ih =>
        intro v2 v3 hw
        refine g_iload K 0 dX9_stock_34 rfl ?_
        refine g_aload_n K 2 dX9_stock_36 rfl ?_
        refine g_get K (C := RX9) (T := TX9) (N := 22) 0 0 in_X9_stock_X9 (by decide +kernel) rfl rfl (by decide) rfl dX9_stock_37 ?_
        refine g_iconst (v := 2) K dX9_stock_40 rfl ?_
        refine g_iald K 1 0 rfl rfl hw.1 dX9_stock_41 ?_
        replace hw := hw.2
        refine g_icmp_ge (tgt := 111) K dX9_stock_42 (by decide) (fun hc => ?_) (fun hc => ?_)
        · replace hw := hw.1 hc
          exact hx111 _ _ hw
        · replace hw := hw.2 hc
          refine g_aload_n K 2 dX9_stock_45 rfl ?_
          refine g_get K (C := RX9) (T := TX9) (N := 22) 0 9 in_X9_stock_X9 (by decide +kernel) rfl rfl (by decide) rfl dX9_stock_46 ?_
          refine g_if_ne (tgt := 111) K dX9_stock_49 (by decide) (fun _ => ?_) (fun hc => absurd hc (by decide))
          exact hx111 _ _ hw
    refine key _ (fun v4 v5 hw => ?_) fl _ _ hw
    refine g_iload_n K 1 dX9_stock_111 rfl ?_
    exact g_zret K E Er (v5, 1) hw rfl rfl rfl (Nat.le_refl _) (Nat.le_refl _) dX9_stock_112
  · replace hw := hw.1 hc
    refine g_iload_n K 2 dX9_stock_8 rfl ?_
    refine g_iconst (v := 0) K dX9_stock_9 rfl ?_
    refine g_iconst (v := 3) K dX9_stock_10 rfl ?_
    refine g_callSr (st' := fun u6 => [.int (bI u6), .ref (A 0)]) K hR [.int p1, .int 0, .int 3] [.ref (A 0)] (c_X9_in X.2.1 (gxD X) cy sd p1 0 3 hw) gX9_stock_X9_in rfl yok_X9_in rfl (by decide) rfl (Nat.le_of_ble_eq_true rfl) dX9_stock_11 [] rfl (by decide) (fun _ => rfl) ⟨rfl, rfl⟩ (fun u6 hw => ?_)
    refine g_ifb_eq (tgt := 21) K dX9_stock_14 (by decide) (fun hc => ?_) (fun hc => ?_)
    · replace hw := hw.2 hc
      refine g_iconst (v := 2) K dX9_stock_21 rfl ?_
      refine g_goto (tgt := 26) K dX9_stock_22 (by decide) ?_
      refine g_put (ty := .int) (ws' := [((A 0), .inr (10, [.ref (A 1), .ref (A 2), .ref (A 3), .ref (A 4), .int mhasKept, .ref (A 5), .int mpasts, .ref (A 6), .int mreports, .int 2, .ref (A 7), .ref (A 8), .ref (A 9), .int mordering, .int mdetail, .ref (A 10), .int mlength, .int mspot, .int mnumber, .ref (A 11), .int mtolds, .ref (A 12)])), ((A 1), .inl (cy 0, 672, .inl mg)), ((A 2), .inl (cy 0, 672, .inl mkept)), ((A 3), .inl (cy 0, 672, .inl mspare)), ((A 4), .inl (cy 0, 672, .inl mtrial)), ((A 5), .inl (cy 0, 5376, .inl mpast)), ((A 6), .inl (cy 0, 6, .inl mreport)), ((A 7), .inl (cy 0, 5, .inl mpart)), ((A 8), .inl (cy 0, 5, .inl mcome)), ((A 9), .inl (cy 0, 60, .inl morder)), ((A 10), .inl (cy 0, 80, .inl mtext)), ((A 11), .inl (cy 0, 200, .inl mtold)), ((A 12), .inl (cy 0, 672, .inl mahead))]) K (C := RX9) (T := TX9) (N := 22) 0 9 in_X9_stock_X9 tyX9 tyX9_ok nmX9 (by decide +kernel) rfl rfl (by decide) rfl (by decide +kernel) rfl rfl (Nat.le_of_ble_eq_true rfl) rfl dX9_stock_26 ?_
      refine g_iconst (v := 0) K dX9_stock_29 rfl ?_
      refine g_istore_n (lv' := [(3, .int 0), (0, .ref (A 0)), (1, .int p0), (2, .int p1)]) K dX9_stock_30 rfl (by rw [En]; decide) rfl ?_
      refine g_iconst (v := 0) K dX9_stock_31 rfl ?_
      refine g_istore (lv' := [(4, .int 0), (3, .int 0), (0, .ref (A 0)), (1, .int p0), (2, .int p1)]) K dX9_stock_32 (by rw [En]; decide) rfl ?_
      obtain ⟨fl, hw⟩ := hw
      have key : ∀ (k34_111 : Int32 → Int32 → Prop), (∀ (v7 : Int32) (v8 : Int32), k34_111 v7 v8 → Gx X 0 0 [((A 0), .inr (10, [.ref (A 1), .ref (A 2), .ref (A 3), .ref (A 4), .int mhasKept, .ref (A 5), .int mpasts, .ref (A 6), .int mreports, .int 2, .ref (A 7), .ref (A 8), .ref (A 9), .int mordering, .int mdetail, .ref (A 10), .int mlength, .int mspot, .int mnumber, .ref (A 11), .int mtolds, .ref (A 12)])), ((A 1), .inl (cy 0, 672, .inl mg)), ((A 2), .inl (cy 0, 672, .inl mkept)), ((A 3), .inl (cy 0, 672, .inl mspare)), ((A 4), .inl (cy 0, 672, .inl mtrial)), ((A 5), .inl (cy 0, 5376, .inl mpast)), ((A 6), .inl (cy 0, 6, .inl mreport)), ((A 7), .inl (cy 0, 5, .inl mpart)), ((A 8), .inl (cy 0, 5, .inl mcome)), ((A 9), .inl (cy 0, 60, .inl morder)), ((A 10), .inl (cy 0, 80, .inl mtext)), ((A 11), .inl (cy 0, 200, .inl mtold)), ((A 12), .inl (cy 0, 672, .inl mahead))] [(4, .int v7), (3, .int v8), (0, .ref (A 0)), (1, .int p0), (2, .int p1)] 111 []) → ∀ (n : Nat) (v7 : Int32) (v8 : Int32), wp_X9_stock_L34_1 mg k34_111 n v7 v8 → Gx X 0 0 [((A 0), .inr (10, [.ref (A 1), .ref (A 2), .ref (A 3), .ref (A 4), .int mhasKept, .ref (A 5), .int mpasts, .ref (A 6), .int mreports, .int 2, .ref (A 7), .ref (A 8), .ref (A 9), .int mordering, .int mdetail, .ref (A 10), .int mlength, .int mspot, .int mnumber, .ref (A 11), .int mtolds, .ref (A 12)])), ((A 1), .inl (cy 0, 672, .inl mg)), ((A 2), .inl (cy 0, 672, .inl mkept)), ((A 3), .inl (cy 0, 672, .inl mspare)), ((A 4), .inl (cy 0, 672, .inl mtrial)), ((A 5), .inl (cy 0, 5376, .inl mpast)), ((A 6), .inl (cy 0, 6, .inl mreport)), ((A 7), .inl (cy 0, 5, .inl mpart)), ((A 8), .inl (cy 0, 5, .inl mcome)), ((A 9), .inl (cy 0, 60, .inl morder)), ((A 10), .inl (cy 0, 80, .inl mtext)), ((A 11), .inl (cy 0, 200, .inl mtold)), ((A 12), .inl (cy 0, 672, .inl mahead))] [(4, .int v7), (3, .int v8), (0, .ref (A 0)), (1, .int p0), (2, .int p1)] 34 [] := by
        intro k34_111 hx111 n
        induction n with
        | zero => intro v7 v8 hw; exact hw.elim
        | succ n ih =>
          intro v7 v8 hw
          refine g_iload K 0 dX9_stock_34 rfl ?_
          refine g_aload_n K 2 dX9_stock_36 rfl ?_
          refine g_get K (C := RX9) (T := TX9) (N := 22) 0 0 in_X9_stock_X9 (by decide +kernel) rfl rfl (by decide) rfl dX9_stock_37 ?_
          refine g_iconst (v := 2) K dX9_stock_40 rfl ?_
          refine g_iald K 1 0 rfl rfl hw.1 dX9_stock_41 ?_
          replace hw := hw.2
          refine g_icmp_ge (tgt := 111) K dX9_stock_42 (by decide) (fun hc => ?_) (fun hc => ?_)
          · replace hw := hw.1 hc
            exact hx111 _ _ hw
          · replace hw := hw.2 hc
            refine g_aload_n K 2 dX9_stock_45 rfl ?_
            refine g_get K (C := RX9) (T := TX9) (N := 22) 0 9 in_X9_stock_X9 (by decide +kernel) rfl rfl (by decide) rfl dX9_stock_46 ?_
            refine g_if_ne (tgt := 111) K dX9_stock_49 (by decide) (fun _ => ?_) (fun hc => absurd hc (by decide))
            exact hx111 _ _ hw
      refine key _ (fun v9 v10 hw => ?_) fl _ _ hw
      refine g_iload_n K 1 dX9_stock_111 rfl ?_
      exact g_zret K E Er (v10, 2) hw rfl rfl rfl (Nat.le_refl _) (Nat.le_refl _) dX9_stock_112
    · replace hw := hw.1 hc
      refine g_iconst (v := 0) K dX9_stock_17 rfl ?_
      refine g_goto (tgt := 26) K dX9_stock_18 (by decide) ?_
      refine g_put (ty := .int) (ws' := [((A 0), .inr (10, [.ref (A 1), .ref (A 2), .ref (A 3), .ref (A 4), .int mhasKept, .ref (A 5), .int mpasts, .ref (A 6), .int mreports, .int 0, .ref (A 7), .ref (A 8), .ref (A 9), .int mordering, .int mdetail, .ref (A 10), .int mlength, .int mspot, .int mnumber, .ref (A 11), .int mtolds, .ref (A 12)])), ((A 1), .inl (cy 0, 672, .inl mg)), ((A 2), .inl (cy 0, 672, .inl mkept)), ((A 3), .inl (cy 0, 672, .inl mspare)), ((A 4), .inl (cy 0, 672, .inl mtrial)), ((A 5), .inl (cy 0, 5376, .inl mpast)), ((A 6), .inl (cy 0, 6, .inl mreport)), ((A 7), .inl (cy 0, 5, .inl mpart)), ((A 8), .inl (cy 0, 5, .inl mcome)), ((A 9), .inl (cy 0, 60, .inl morder)), ((A 10), .inl (cy 0, 80, .inl mtext)), ((A 11), .inl (cy 0, 200, .inl mtold)), ((A 12), .inl (cy 0, 672, .inl mahead))]) K (C := RX9) (T := TX9) (N := 22) 0 9 in_X9_stock_X9 tyX9 tyX9_ok nmX9 (by decide +kernel) rfl rfl (by decide) rfl (by decide +kernel) rfl rfl (Nat.le_of_ble_eq_true rfl) rfl dX9_stock_26 ?_
      refine g_iconst (v := 0) K dX9_stock_29 rfl ?_
      refine g_istore_n (lv' := [(3, .int 0), (0, .ref (A 0)), (1, .int p0), (2, .int p1)]) K dX9_stock_30 rfl (by rw [En]; decide) rfl ?_
      refine g_iconst (v := 0) K dX9_stock_31 rfl ?_
      refine g_istore (lv' := [(4, .int 0), (3, .int 0), (0, .ref (A 0)), (1, .int p0), (2, .int p1)]) K dX9_stock_32 (by rw [En]; decide) rfl ?_
      obtain ⟨fl, hw⟩ := hw
      have key : ∀ (k34_111 : Int32 → Int32 → Prop), (∀ (v11 : Int32) (v12 : Int32), k34_111 v11 v12 → Gx X 0 0 [((A 0), .inr (10, [.ref (A 1), .ref (A 2), .ref (A 3), .ref (A 4), .int mhasKept, .ref (A 5), .int mpasts, .ref (A 6), .int mreports, .int 0, .ref (A 7), .ref (A 8), .ref (A 9), .int mordering, .int mdetail, .ref (A 10), .int mlength, .int mspot, .int mnumber, .ref (A 11), .int mtolds, .ref (A 12)])), ((A 1), .inl (cy 0, 672, .inl mg)), ((A 2), .inl (cy 0, 672, .inl mkept)), ((A 3), .inl (cy 0, 672, .inl mspare)), ((A 4), .inl (cy 0, 672, .inl mtrial)), ((A 5), .inl (cy 0, 5376, .inl mpast)), ((A 6), .inl (cy 0, 6, .inl mreport)), ((A 7), .inl (cy 0, 5, .inl mpart)), ((A 8), .inl (cy 0, 5, .inl mcome)), ((A 9), .inl (cy 0, 60, .inl morder)), ((A 10), .inl (cy 0, 80, .inl mtext)), ((A 11), .inl (cy 0, 200, .inl mtold)), ((A 12), .inl (cy 0, 672, .inl mahead))] [(4, .int v11), (3, .int v12), (0, .ref (A 0)), (1, .int p0), (2, .int p1)] 111 []) → ∀ (n : Nat) (v11 : Int32) (v12 : Int32), wp_X9_stock_L34_2 mg p0 p1 k34_111 n v11 v12 → Gx X 0 0 [((A 0), .inr (10, [.ref (A 1), .ref (A 2), .ref (A 3), .ref (A 4), .int mhasKept, .ref (A 5), .int mpasts, .ref (A 6), .int mreports, .int 0, .ref (A 7), .ref (A 8), .ref (A 9), .int mordering, .int mdetail, .ref (A 10), .int mlength, .int mspot, .int mnumber, .ref (A 11), .int mtolds, .ref (A 12)])), ((A 1), .inl (cy 0, 672, .inl mg)), ((A 2), .inl (cy 0, 672, .inl mkept)), ((A 3), .inl (cy 0, 672, .inl mspare)), ((A 4), .inl (cy 0, 672, .inl mtrial)), ((A 5), .inl (cy 0, 5376, .inl mpast)), ((A 6), .inl (cy 0, 6, .inl mreport)), ((A 7), .inl (cy 0, 5, .inl mpart)), ((A 8), .inl (cy 0, 5, .inl mcome)), ((A 9), .inl (cy 0, 60, .inl morder)), ((A 10), .inl (cy 0, 80, .inl mtext)), ((A 11), .inl (cy 0, 200, .inl mtold)), ((A 12), .inl (cy 0, 672, .inl mahead))] [(4, .int v11), (3, .int v12), (0, .ref (A 0)), (1, .int p0), (2, .int p1)] 34 [] := by
        intro k34_111 hx111 n
        induction n with
        | zero => intro v11 v12 hw; exact hw.elim
        | succ n ih =>
          intro v11 v12 hw
          refine g_iload K 0 dX9_stock_34 rfl ?_
          refine g_aload_n K 2 dX9_stock_36 rfl ?_
          refine g_get K (C := RX9) (T := TX9) (N := 22) 0 0 in_X9_stock_X9 (by decide +kernel) rfl rfl (by decide) rfl dX9_stock_37 ?_
          refine g_iconst (v := 2) K dX9_stock_40 rfl ?_
          refine g_iald K 1 0 rfl rfl hw.1 dX9_stock_41 ?_
          replace hw := hw.2
          refine g_icmp_ge (tgt := 111) K dX9_stock_42 (by decide) (fun hc => ?_) (fun hc => ?_)
          · replace hw := hw.1 hc
            exact hx111 _ _ hw
          · replace hw := hw.2 hc
            refine g_aload_n K 2 dX9_stock_45 rfl ?_
            refine g_get K (C := RX9) (T := TX9) (N := 22) 0 9 in_X9_stock_X9 (by decide +kernel) rfl rfl (by decide) rfl dX9_stock_46 ?_
            refine g_if_ne (tgt := 111) K dX9_stock_49 (by decide) (fun hc => absurd hc (by decide)) (fun _ => ?_)
            refine g_iload_n K 1 dX9_stock_52 rfl ?_
            refine g_aload_n K 2 dX9_stock_53 rfl ?_
            refine g_get K (C := RX9) (T := TX9) (N := 22) 0 0 in_X9_stock_X9 (by decide +kernel) rfl rfl (by decide) rfl dX9_stock_54 ?_
            refine g_iload K 0 dX9_stock_57 rfl ?_
            refine g_bipush (v := 7) K dX9_stock_59 rfl ?_
            refine g_callSr (st' := fun u13 => [.int u13, .ref (A 1), .int v12]) K hR [.int v11, .int 7] [.ref (A 1), .int v12] (c_X9_baleAt X.2.1 (gxD X) cy sd v11 7 hw) gX9_stock_X9_baleAt rfl yok_X9_baleAt rfl (by decide) rfl (Nat.le_of_ble_eq_true rfl) dX9_stock_61 [] rfl (by decide) (fun _ => rfl) ⟨rfl, rfl⟩ (fun u13 hw => ?_)
            refine g_iald K 1 0 rfl rfl hw.1 dX9_stock_64 ?_
            replace hw := hw.2
            refine g_if_ne (tgt := 102) K dX9_stock_65 (by decide) (fun hc => ?_) (fun hc => ?_)
            · replace hw := hw.2 hc
              refine g_iconst (v := 0) K dX9_stock_102 rfl ?_
              refine g_iadd K dX9_stock_103 ?_
              refine g_topi (fun x14 ex14 => ?_)
              replace hw := hw x14 ex14
              refine g_istore_n (lv' := [(3, .int x14), (4, .int v11), (0, .ref (A 0)), (1, .int p0), (2, .int p1)]) K dX9_stock_104 rfl (by rw [En]; decide) rfl ?_
              obtain ⟨x15, ex15⟩ : ∃ z : Int32, z = v11 + 1 := ⟨_, rfl⟩
              replace hw := hw x15 ex15
              refine g_iinc (v := x15) (lv' := [(4, .int x15), (3, .int x14), (0, .ref (A 0)), (1, .int p0), (2, .int p1)]) K 1 dX9_stock_105 rfl (by rw [ex15]; rfl) (by rw [En]; decide) rfl ?_
              refine g_goto (tgt := 34) K dX9_stock_108 (by decide) ?_
              exact ih _ _ hw
            · replace hw := hw.1 hc
              refine g_aload_n K 2 dX9_stock_68 rfl ?_
              refine g_get K (C := RX9) (T := TX9) (N := 22) 0 0 in_X9_stock_X9 (by decide +kernel) rfl rfl (by decide) rfl dX9_stock_69 ?_
              refine g_iload K 0 dX9_stock_72 rfl ?_
              refine g_iconst (v := 5) K dX9_stock_74 rfl ?_
              refine g_callSr (st' := fun u16 => [.int u16, .ref (A 1), .int v12]) K hR [.int v11, .int 5] [.ref (A 1), .int v12] (c_X9_baleAt X.2.1 (gxD X) cy sd v11 5 hw) gX9_stock_X9_baleAt rfl yok_X9_baleAt rfl (by decide) rfl (Nat.le_of_ble_eq_true rfl) dX9_stock_75 [] rfl (by decide) (fun _ => rfl) ⟨rfl, rfl⟩ (fun u16 hw => ?_)
              refine g_iald K 1 0 rfl rfl hw.1 dX9_stock_78 ?_
              replace hw := hw.2
              refine g_iload_n K 3 dX9_stock_79 rfl ?_
              refine g_icmp_ne (tgt := 102) K dX9_stock_80 (by decide) (fun hc => ?_) (fun hc => ?_)
              · replace hw := hw.2 hc
                refine g_iconst (v := 0) K dX9_stock_102 rfl ?_
                refine g_iadd K dX9_stock_103 ?_
                refine g_topi (fun x17 ex17 => ?_)
                replace hw := hw x17 ex17
                refine g_istore_n (lv' := [(3, .int x17), (4, .int v11), (0, .ref (A 0)), (1, .int p0), (2, .int p1)]) K dX9_stock_104 rfl (by rw [En]; decide) rfl ?_
                obtain ⟨x18, ex18⟩ : ∃ z : Int32, z = v11 + 1 := ⟨_, rfl⟩
                replace hw := hw x18 ex18
                refine g_iinc (v := x18) (lv' := [(4, .int x18), (3, .int x17), (0, .ref (A 0)), (1, .int p0), (2, .int p1)]) K 1 dX9_stock_105 rfl (by rw [ex18]; rfl) (by rw [En]; decide) rfl ?_
                refine g_goto (tgt := 34) K dX9_stock_108 (by decide) ?_
                exact ih _ _ hw
              · replace hw := hw.1 hc
                refine g_aload_n K 2 dX9_stock_83 rfl ?_
                refine g_iload K 0 dX9_stock_84 rfl ?_
                refine g_callVr (st' := fun u19 => [.int u19, .int v12]) K hR [.int v11] [.int v12] 0 rfl rfl (c_X9_grade X.2.1 (gxD X) cy sd A mg mkept mspare mtrial mpast mreport mpart mcome morder mtext mtold mahead mhasKept mpasts mreports 0 mordering mdetail mlength mspot mnumber mtolds v11 hw) gX9_stock_X9_grade rfl yok_X9_grade rfl rfl (by decide) rfl (Nat.le_of_ble_eq_true rfl) dX9_stock_86 [0, 1, 2, 3, 4, 5, 6, 7, 8, 9, 10, 11, 12] rfl (by decide) (fun _ => rfl) ⟨rfl, rfl⟩ (fun u19 hw => ?_)
                refine g_iload_n K 4 dX9_stock_89 rfl ?_
                refine g_icmp_gt (tgt := 102) K dX9_stock_90 (by decide) (fun hc => ?_) (fun hc => ?_)
                · replace hw := hw.1 hc
                  refine g_iconst (v := 0) K dX9_stock_102 rfl ?_
                  refine g_iadd K dX9_stock_103 ?_
                  refine g_topi (fun x20 ex20 => ?_)
                  replace hw := hw x20 ex20
                  refine g_istore_n (lv' := [(3, .int x20), (4, .int v11), (0, .ref (A 0)), (1, .int p0), (2, .int p1)]) K dX9_stock_104 rfl (by rw [En]; decide) rfl ?_
                  obtain ⟨x21, ex21⟩ : ∃ z : Int32, z = v11 + 1 := ⟨_, rfl⟩
                  replace hw := hw x21 ex21
                  refine g_iinc (v := x21) (lv' := [(4, .int x21), (3, .int x20), (0, .ref (A 0)), (1, .int p0), (2, .int p1)]) K 1 dX9_stock_105 rfl (by rw [ex21]; rfl) (by rw [En]; decide) rfl ?_
                  refine g_goto (tgt := 34) K dX9_stock_108 (by decide) ?_
                  exact ih _ _ hw
                · replace hw := hw.2 hc
                  refine g_aload_n K 2 dX9_stock_93 rfl ?_
                  refine g_iload K 0 dX9_stock_94 rfl ?_
                  refine g_callVr (st' := fun u22 => [.int u22, .int v12]) K hR [.int v11] [.int v12] 0 rfl rfl (c_X9_kilosOf X.2.1 (gxD X) cy sd A mg mkept mspare mtrial mpast mreport mpart mcome morder mtext mtold mahead mhasKept mpasts mreports 0 mordering mdetail mlength mspot mnumber mtolds v11 hw) gX9_stock_X9_kilosOf rfl yok_X9_kilosOf rfl rfl (by decide) rfl (Nat.le_of_ble_eq_true rfl) dX9_stock_96 [0, 1, 2, 3, 4, 5, 6, 7, 8, 9, 10, 11, 12] rfl (by decide) (fun _ => rfl) ⟨rfl, rfl⟩ (fun u22 hw => ?_)
                  refine g_goto (tgt := 103) K dX9_stock_99 (by decide) ?_
                  refine g_iadd K dX9_stock_103 ?_
                  refine g_topi (fun x23 ex23 => ?_)
                  replace hw := hw x23 ex23
                  refine g_istore_n (lv' := [(3, .int x23), (4, .int v11), (0, .ref (A 0)), (1, .int p0), (2, .int p1)]) K dX9_stock_104 rfl (by rw [En]; decide) rfl ?_
                  obtain ⟨x24, ex24⟩ : ∃ z : Int32, z = v11 + 1 := ⟨_, rfl⟩
                  replace hw := hw x24 ex24
                  refine g_iinc (v := x24) (lv' := [(4, .int x24), (3, .int x23), (0, .ref (A 0)), (1, .int p0), (2, .int p1)]) K 1 dX9_stock_105 rfl (by rw [ex24]; rfl) (by rw [En]; decide) rfl ?_
                  refine g_goto (tgt := 34) K dX9_stock_108 (by decide) ?_
                  exact ih _ _ hw
      refine key _ (fun v25 v26 hw => ?_) fl _ _ hw
      refine g_iload_n K 1 dX9_stock_111 rfl ?_
      exact g_zret K E Er (v26, 0) hw rfl rfl rfl (Nat.le_refl _) (Nat.le_refl _) dX9_stock_112

def wp_X9_againstContract (mg : XRow) (p0 : Int32) (p1 : Int32) (p2 : Int32) (p3 : Int32) (post : Int32 → Prop) : Prop := wp_X9_isMaterial p0 (fun u1 : Bool => (u1 = true → (wp_X9_in p1 0 1000 (fun u2 : Bool => (u2 = true → (wp_X9_in p2 1 9999 (fun u3 : Bool => (u3 = true → (wp_X9_in p3 1 99 (fun u4 : Bool => (u4 = true → (vp_in 3 672 ∧ (((mg ((3 : Int32).toNatClampNeg)) = 8 → (post 3)) ∧ (¬ (mg ((3 : Int32).toNatClampNeg)) = 8 → (post 0))))) ∧ (u4 = false → (post 2))))) ∧ (u3 = false → (post 2))))) ∧ (u2 = false → (post 2))))) ∧ (u1 = false → (post 1)))
theorem in_X9_againstContract_X9 : ∀ w ∈ u_ws RX9 TX9 22, w ∈ wsX9_againstContract := by decide +kernel
set_option maxRecDepth 100000 in
set_option maxHeartbeats 4000000 in
theorem c_X9_againstContract (l : Launch) (D : va_G) (cy : Nat → ClassId) (sd : xSd) (A : Nat → Nat) (mg : XRow) (mkept : XRow) (mspare : XRow) (mtrial : XRow) (mpast : XRow) (mreport : XRow) (mpart : XRow) (mcome : XRow) (morder : XRow) (mtext : XRow) (mtold : XRow) (mahead : XRow) (mhasKept : Int32) (mpasts : Int32) (mreports : Int32) (mthrown : Int32) (mordering : Int32) (mdetail : Int32) (mlength : Int32) (mspot : Int32) (mnumber : Int32) (mtolds : Int32) (p0 : Int32) (p1 : Int32) (p2 : Int32) (p3 : Int32) {post : Int32 → Prop} (hw : wp_X9_againstContract mg p0 p1 p2 p3 post) : Ctr l D (xTys cy) sd yX9_againstContract wsX9_againstContract ({ frames := 2, cells := 0, slots := 0, locals := 42 } : Room) [.ref (A 0), .int p0, .int p1, .int p2, .int p3] (fun u : Int32 => some (.int u)) [((A 0), .inr (10, [.ref (A 1), .ref (A 2), .ref (A 3), .ref (A 4), .int mhasKept, .ref (A 5), .int mpasts, .ref (A 6), .int mreports, .int mthrown, .ref (A 7), .ref (A 8), .ref (A 9), .int mordering, .int mdetail, .ref (A 10), .int mlength, .int mspot, .int mnumber, .ref (A 11), .int mtolds, .ref (A 12)])), ((A 1), .inl (cy 0, 672, .inl mg)), ((A 2), .inl (cy 0, 672, .inl mkept)), ((A 3), .inl (cy 0, 672, .inl mspare)), ((A 4), .inl (cy 0, 672, .inl mtrial)), ((A 5), .inl (cy 0, 5376, .inl mpast)), ((A 6), .inl (cy 0, 6, .inl mreport)), ((A 7), .inl (cy 0, 5, .inl mpart)), ((A 8), .inl (cy 0, 5, .inl mcome)), ((A 9), .inl (cy 0, 60, .inl morder)), ((A 10), .inl (cy 0, 80, .inl mtext)), ((A 11), .inl (cy 0, 200, .inl mtold)), ((A 12), .inl (cy 0, 672, .inl mahead))] (fun _ => [((A 0), .inr (10, [.ref (A 1), .ref (A 2), .ref (A 3), .ref (A 4), .int mhasKept, .ref (A 5), .int mpasts, .ref (A 6), .int mreports, .int mthrown, .ref (A 7), .ref (A 8), .ref (A 9), .int mordering, .int mdetail, .ref (A 10), .int mlength, .int mspot, .int mnumber, .ref (A 11), .int mtolds, .ref (A 12)])), ((A 1), .inl (cy 0, 672, .inl mg)), ((A 2), .inl (cy 0, 672, .inl mkept)), ((A 3), .inl (cy 0, 672, .inl mspare)), ((A 4), .inl (cy 0, 672, .inl mtrial)), ((A 5), .inl (cy 0, 5376, .inl mpast)), ((A 6), .inl (cy 0, 6, .inl mreport)), ((A 7), .inl (cy 0, 5, .inl mpart)), ((A 8), .inl (cy 0, 5, .inl mcome)), ((A 9), .inl (cy 0, 60, .inl morder)), ((A 10), .inl (cy 0, 80, .inl mtext)), ((A 11), .inl (cy 0, 200, .inl mtold)), ((A 12), .inl (cy 0, 672, .inl mahead))]) post := by
  refine Ctr.of (cc := cX9_againstContract) (maxL := 5) (ret := (some .int)) (lv0 := [(0, .ref (A 0)), (1, .int p0), (2, .int p1), (3, .int p2), (4, .int p3)]) (by decide) rfl (Nat.le_of_ble_eq_true rfl) rfl ?_
  intro X El hR Er Enm ED E En K
  have K : Cx X cX9_againstContract RX9 wsX9_againstContract (xTys cy) sd := K
  have E : X.2.2.2.2.2.2.2.2.2.2.1 = xMQ X (fun u : Int32 => some (.int u)) post (fun _ => [((A 0), .inr (10, [.ref (A 1), .ref (A 2), .ref (A 3), .ref (A 4), .int mhasKept, .ref (A 5), .int mpasts, .ref (A 6), .int mreports, .int mthrown, .ref (A 7), .ref (A 8), .ref (A 9), .int mordering, .int mdetail, .ref (A 10), .int mlength, .int mspot, .int mnumber, .ref (A 11), .int mtolds, .ref (A 12)])), ((A 1), .inl (cy 0, 672, .inl mg)), ((A 2), .inl (cy 0, 672, .inl mkept)), ((A 3), .inl (cy 0, 672, .inl mspare)), ((A 4), .inl (cy 0, 672, .inl mtrial)), ((A 5), .inl (cy 0, 5376, .inl mpast)), ((A 6), .inl (cy 0, 6, .inl mreport)), ((A 7), .inl (cy 0, 5, .inl mpart)), ((A 8), .inl (cy 0, 5, .inl mcome)), ((A 9), .inl (cy 0, 60, .inl morder)), ((A 10), .inl (cy 0, 80, .inl mtext)), ((A 11), .inl (cy 0, 200, .inl mtold)), ((A 12), .inl (cy 0, 672, .inl mahead))]) 0 0 := E
  unfold wp_X9_againstContract at hw
  refine g_iload_n K 1 dX9_againstContract_0 rfl ?_
  refine g_callSr (st' := fun u1 => [.int (bI u1)]) K hR [.int p0] [] (c_X9_isMaterial X.2.1 (gxD X) cy sd p0 hw) gX9_againstContract_X9_isMaterial rfl yok_X9_isMaterial rfl (by decide) rfl (Nat.le_of_ble_eq_true rfl) dX9_againstContract_1 [] rfl (by decide) (fun _ => rfl) ⟨rfl, rfl⟩ (fun u1 hw => ?_)
  refine g_ifb_ne (tgt := 11) K dX9_againstContract_4 (by decide) (fun hc => ?_) (fun hc => ?_)
  · replace hw := hw.1 hc
    refine g_iload_n K 2 dX9_againstContract_11 rfl ?_
    refine g_iconst (v := 0) K dX9_againstContract_12 rfl ?_
    refine g_sipush (v := 1000) K dX9_againstContract_13 rfl ?_
    refine g_callSr (st' := fun u2 => [.int (bI u2)]) K hR [.int p1, .int 0, .int 1000] [] (c_X9_in X.2.1 (gxD X) cy sd p1 0 1000 hw) gX9_againstContract_X9_in rfl yok_X9_in rfl (by decide) rfl (Nat.le_of_ble_eq_true rfl) dX9_againstContract_16 [] rfl (by decide) (fun _ => rfl) ⟨rfl, rfl⟩ (fun u2 hw => ?_)
    refine g_ifb_eq (tgt := 44) K dX9_againstContract_19 (by decide) (fun hc => ?_) (fun hc => ?_)
    · replace hw := hw.2 hc
      refine g_iconst (v := 2) K dX9_againstContract_44 rfl ?_
      refine g_goto (tgt := 64) K dX9_againstContract_45 (by decide) ?_
      exact g_zret K E Er 2 hw rfl rfl rfl (Nat.le_refl _) (Nat.le_refl _) dX9_againstContract_64
    · replace hw := hw.1 hc
      refine g_iload_n K 3 dX9_againstContract_22 rfl ?_
      refine g_iconst (v := 1) K dX9_againstContract_23 rfl ?_
      refine g_sipush (v := 9999) K dX9_againstContract_24 rfl ?_
      refine g_callSr (st' := fun u3 => [.int (bI u3)]) K hR [.int p2, .int 1, .int 9999] [] (c_X9_in X.2.1 (gxD X) cy sd p2 1 9999 hw) gX9_againstContract_X9_in rfl yok_X9_in rfl (by decide) rfl (Nat.le_of_ble_eq_true rfl) dX9_againstContract_27 [] rfl (by decide) (fun _ => rfl) ⟨rfl, rfl⟩ (fun u3 hw => ?_)
      refine g_ifb_eq (tgt := 44) K dX9_againstContract_30 (by decide) (fun hc => ?_) (fun hc => ?_)
      · replace hw := hw.2 hc
        refine g_iconst (v := 2) K dX9_againstContract_44 rfl ?_
        refine g_goto (tgt := 64) K dX9_againstContract_45 (by decide) ?_
        exact g_zret K E Er 2 hw rfl rfl rfl (Nat.le_refl _) (Nat.le_refl _) dX9_againstContract_64
      · replace hw := hw.1 hc
        refine g_iload K 4 dX9_againstContract_33 rfl ?_
        refine g_iconst (v := 1) K dX9_againstContract_35 rfl ?_
        refine g_bipush (v := 99) K dX9_againstContract_36 rfl ?_
        refine g_callSr (st' := fun u4 => [.int (bI u4)]) K hR [.int p3, .int 1, .int 99] [] (c_X9_in X.2.1 (gxD X) cy sd p3 1 99 hw) gX9_againstContract_X9_in rfl yok_X9_in rfl (by decide) rfl (Nat.le_of_ble_eq_true rfl) dX9_againstContract_38 [] rfl (by decide) (fun _ => rfl) ⟨rfl, rfl⟩ (fun u4 hw => ?_)
        refine g_ifb_ne (tgt := 48) K dX9_againstContract_41 (by decide) (fun hc => ?_) (fun hc => ?_)
        · replace hw := hw.1 hc
          refine g_aload_n K 0 dX9_againstContract_48 rfl ?_
          refine g_get K (C := RX9) (T := TX9) (N := 22) 0 0 in_X9_againstContract_X9 (by decide +kernel) rfl rfl (by decide) rfl dX9_againstContract_49 ?_
          refine g_iconst (v := 3) K dX9_againstContract_52 rfl ?_
          refine g_iald K 1 0 rfl rfl hw.1 dX9_againstContract_53 ?_
          replace hw := hw.2
          refine g_bipush (v := 8) K dX9_againstContract_54 rfl ?_
          refine g_icmp_ne (tgt := 63) K dX9_againstContract_56 (by decide) (fun hc => ?_) (fun hc => ?_)
          · replace hw := hw.2 hc
            refine g_iconst (v := 0) K dX9_againstContract_63 rfl ?_
            exact g_zret K E Er 0 hw rfl rfl rfl (Nat.le_refl _) (Nat.le_refl _) dX9_againstContract_64
          · replace hw := hw.1 hc
            refine g_iconst (v := 3) K dX9_againstContract_59 rfl ?_
            refine g_goto (tgt := 64) K dX9_againstContract_60 (by decide) ?_
            exact g_zret K E Er 3 hw rfl rfl rfl (Nat.le_refl _) (Nat.le_refl _) dX9_againstContract_64
        · replace hw := hw.2 hc
          refine g_iconst (v := 2) K dX9_againstContract_44 rfl ?_
          refine g_goto (tgt := 64) K dX9_againstContract_45 (by decide) ?_
          exact g_zret K E Er 2 hw rfl rfl rfl (Nat.le_refl _) (Nat.le_refl _) dX9_againstContract_64
  · replace hw := hw.2 hc
    refine g_iconst (v := 1) K dX9_againstContract_7 rfl ?_
    refine g_goto (tgt := 64) K dX9_againstContract_8 (by decide) ?_
    exact g_zret K E Er 1 hw rfl rfl rfl (Nat.le_refl _) (Nat.le_refl _) dX9_againstContract_64

def wp_X9_contracts (mg : XRow) (p0 : Int32) (p1 : Int32) (p2 : Int32) (p3 : Int32) (post : (Int32 × XRow) → Prop) : Prop := vp_in 3 672 ∧ (∀ x1 : Int32, x1 = mg ((3 : Int32).toNatClampNeg) → (vp_in 3 672 ∧ (vp_in 3 672 ∧ (wp_X9_contractAt x1 0 (fun u2 : Int32 => vp_in u2 672 ∧ (wp_X9_contractAt x1 1 (fun u3 : Int32 => vp_in u3 672 ∧ (wp_X9_contractAt x1 2 (fun u4 : Int32 => vp_in u4 672 ∧ (wp_X9_contractAt x1 3 (fun u5 : Int32 => vp_in u5 672 ∧ (wp_X9_contractAt x1 4 (fun u6 : Int32 => vp_in u6 672 ∧ (post (x1, upd (upd (upd (upd (upd (upd mg ((3 : Int32).toNatClampNeg) ((mg ((3 : Int32).toNatClampNeg)) + 1)) (u2).toNatClampNeg p0) (u3).toNatClampNeg p1) (u4).toNatClampNeg p2) (u5).toNatClampNeg p3) (u6).toNatClampNeg 0)))))))))))))))
theorem in_X9_contracts_X9 : ∀ w ∈ u_ws RX9 TX9 22, w ∈ wsX9_contracts := by decide +kernel
set_option maxRecDepth 100000 in
set_option maxHeartbeats 4000000 in
theorem c_X9_contracts (l : Launch) (D : va_G) (cy : Nat → ClassId) (sd : xSd) (A : Nat → Nat) (mg : XRow) (mkept : XRow) (mspare : XRow) (mtrial : XRow) (mpast : XRow) (mreport : XRow) (mpart : XRow) (mcome : XRow) (morder : XRow) (mtext : XRow) (mtold : XRow) (mahead : XRow) (mhasKept : Int32) (mpasts : Int32) (mreports : Int32) (mthrown : Int32) (mordering : Int32) (mdetail : Int32) (mlength : Int32) (mspot : Int32) (mnumber : Int32) (mtolds : Int32) (p0 : Int32) (p1 : Int32) (p2 : Int32) (p3 : Int32) {post : (Int32 × XRow) → Prop} (hw : wp_X9_contracts mg p0 p1 p2 p3 post) : Ctr l D (xTys cy) sd yX9_contracts wsX9_contracts ({ frames := 1, cells := 0, slots := 0, locals := 21 } : Room) [.ref (A 0), .int p0, .int p1, .int p2, .int p3] (fun u : Int32 × XRow => some (.int u.1)) [((A 0), .inr (10, [.ref (A 1), .ref (A 2), .ref (A 3), .ref (A 4), .int mhasKept, .ref (A 5), .int mpasts, .ref (A 6), .int mreports, .int mthrown, .ref (A 7), .ref (A 8), .ref (A 9), .int mordering, .int mdetail, .ref (A 10), .int mlength, .int mspot, .int mnumber, .ref (A 11), .int mtolds, .ref (A 12)])), ((A 1), .inl (cy 0, 672, .inl mg)), ((A 2), .inl (cy 0, 672, .inl mkept)), ((A 3), .inl (cy 0, 672, .inl mspare)), ((A 4), .inl (cy 0, 672, .inl mtrial)), ((A 5), .inl (cy 0, 5376, .inl mpast)), ((A 6), .inl (cy 0, 6, .inl mreport)), ((A 7), .inl (cy 0, 5, .inl mpart)), ((A 8), .inl (cy 0, 5, .inl mcome)), ((A 9), .inl (cy 0, 60, .inl morder)), ((A 10), .inl (cy 0, 80, .inl mtext)), ((A 11), .inl (cy 0, 200, .inl mtold)), ((A 12), .inl (cy 0, 672, .inl mahead))] (fun u => [((A 0), .inr (10, [.ref (A 1), .ref (A 2), .ref (A 3), .ref (A 4), .int mhasKept, .ref (A 5), .int mpasts, .ref (A 6), .int mreports, .int mthrown, .ref (A 7), .ref (A 8), .ref (A 9), .int mordering, .int mdetail, .ref (A 10), .int mlength, .int mspot, .int mnumber, .ref (A 11), .int mtolds, .ref (A 12)])), ((A 1), .inl (cy 0, 672, .inl u.2)), ((A 2), .inl (cy 0, 672, .inl mkept)), ((A 3), .inl (cy 0, 672, .inl mspare)), ((A 4), .inl (cy 0, 672, .inl mtrial)), ((A 5), .inl (cy 0, 5376, .inl mpast)), ((A 6), .inl (cy 0, 6, .inl mreport)), ((A 7), .inl (cy 0, 5, .inl mpart)), ((A 8), .inl (cy 0, 5, .inl mcome)), ((A 9), .inl (cy 0, 60, .inl morder)), ((A 10), .inl (cy 0, 80, .inl mtext)), ((A 11), .inl (cy 0, 200, .inl mtold)), ((A 12), .inl (cy 0, 672, .inl mahead))]) post := by
  refine Ctr.of (cc := cX9_contracts) (maxL := 6) (ret := (some .int)) (lv0 := [(0, .ref (A 0)), (1, .int p0), (2, .int p1), (3, .int p2), (4, .int p3)]) (by decide) rfl (Nat.le_of_ble_eq_true rfl) rfl ?_
  intro X El hR Er Enm ED E En K
  have K : Cx X cX9_contracts RX9 wsX9_contracts (xTys cy) sd := K
  have E : X.2.2.2.2.2.2.2.2.2.2.1 = xMQ X (fun u : Int32 × XRow => some (.int u.1)) post (fun u => [((A 0), .inr (10, [.ref (A 1), .ref (A 2), .ref (A 3), .ref (A 4), .int mhasKept, .ref (A 5), .int mpasts, .ref (A 6), .int mreports, .int mthrown, .ref (A 7), .ref (A 8), .ref (A 9), .int mordering, .int mdetail, .ref (A 10), .int mlength, .int mspot, .int mnumber, .ref (A 11), .int mtolds, .ref (A 12)])), ((A 1), .inl (cy 0, 672, .inl u.2)), ((A 2), .inl (cy 0, 672, .inl mkept)), ((A 3), .inl (cy 0, 672, .inl mspare)), ((A 4), .inl (cy 0, 672, .inl mtrial)), ((A 5), .inl (cy 0, 5376, .inl mpast)), ((A 6), .inl (cy 0, 6, .inl mreport)), ((A 7), .inl (cy 0, 5, .inl mpart)), ((A 8), .inl (cy 0, 5, .inl mcome)), ((A 9), .inl (cy 0, 60, .inl morder)), ((A 10), .inl (cy 0, 80, .inl mtext)), ((A 11), .inl (cy 0, 200, .inl mtold)), ((A 12), .inl (cy 0, 672, .inl mahead))]) 0 0 := E
  unfold wp_X9_contracts at hw
  refine g_aload_n K 0 dX9_contracts_0 rfl ?_
  refine g_get K (C := RX9) (T := TX9) (N := 22) 0 0 in_X9_contracts_X9 (by decide +kernel) rfl rfl (by decide) rfl dX9_contracts_1 ?_
  refine g_iconst (v := 3) K dX9_contracts_4 rfl ?_
  refine g_iald K 1 0 rfl rfl hw.1 dX9_contracts_5 ?_
  replace hw := hw.2
  refine g_topi (fun x1 ex1 => ?_)
  replace hw := hw x1 ex1
  refine g_istore (lv' := [(5, .int x1), (0, .ref (A 0)), (1, .int p0), (2, .int p1), (3, .int p2), (4, .int p3)]) K dX9_contracts_6 (by rw [En]; decide) rfl ?_
  refine g_aload_n K 1 dX9_contracts_8 rfl ?_
  refine g_get K (C := RX9) (T := TX9) (N := 22) 0 0 in_X9_contracts_X9 (by decide +kernel) rfl rfl (by decide) rfl dX9_contracts_9 ?_
  refine g_iconst (v := 3) K dX9_contracts_12 rfl ?_
  refine g_dup2_11 K dX9_contracts_13 rfl rfl ?_
  refine g_iald K 1 0 rfl rfl hw.1 dX9_contracts_14 ?_
  replace hw := hw.2
  refine g_iconst (v := 1) K dX9_contracts_15 rfl ?_
  refine g_iadd K dX9_contracts_16 ?_
  refine g_iast (ws' := [((A 0), .inr (10, [.ref (A 1), .ref (A 2), .ref (A 3), .ref (A 4), .int mhasKept, .ref (A 5), .int mpasts, .ref (A 6), .int mreports, .int mthrown, .ref (A 7), .ref (A 8), .ref (A 9), .int mordering, .int mdetail, .ref (A 10), .int mlength, .int mspot, .int mnumber, .ref (A 11), .int mtolds, .ref (A 12)])), ((A 1), .inl (cy 0, 672, .inl (upd mg ((3 : Int32).toNatClampNeg) ((mg ((3 : Int32).toNatClampNeg)) + 1)))), ((A 2), .inl (cy 0, 672, .inl mkept)), ((A 3), .inl (cy 0, 672, .inl mspare)), ((A 4), .inl (cy 0, 672, .inl mtrial)), ((A 5), .inl (cy 0, 5376, .inl mpast)), ((A 6), .inl (cy 0, 6, .inl mreport)), ((A 7), .inl (cy 0, 5, .inl mpart)), ((A 8), .inl (cy 0, 5, .inl mcome)), ((A 9), .inl (cy 0, 60, .inl morder)), ((A 10), .inl (cy 0, 80, .inl mtext)), ((A 11), .inl (cy 0, 200, .inl mtold)), ((A 12), .inl (cy 0, 672, .inl mahead))]) K 1 0 rfl rfl hw.1 rfl dX9_contracts_17 ?_
  replace hw := hw.2
  refine g_aload_n K 1 dX9_contracts_18 rfl ?_
  refine g_get K (C := RX9) (T := TX9) (N := 22) 0 0 in_X9_contracts_X9 (by decide +kernel) rfl rfl (by decide) rfl dX9_contracts_19 ?_
  refine g_iload K 0 dX9_contracts_22 rfl ?_
  refine g_iconst (v := 0) K dX9_contracts_24 rfl ?_
  refine g_callSr (st' := fun u2 => [.int u2, .ref (A 1)]) K hR [.int x1, .int 0] [.ref (A 1)] (c_X9_contractAt X.2.1 (gxD X) cy sd x1 0 hw) gX9_contracts_X9_contractAt rfl yok_X9_contractAt rfl (by decide) rfl (Nat.le_of_ble_eq_true rfl) dX9_contracts_25 [] rfl (by decide) (fun _ => rfl) ⟨rfl, rfl⟩ (fun u2 hw => ?_)
  refine g_iload_n K 2 dX9_contracts_28 rfl ?_
  refine g_iast (ws' := [((A 0), .inr (10, [.ref (A 1), .ref (A 2), .ref (A 3), .ref (A 4), .int mhasKept, .ref (A 5), .int mpasts, .ref (A 6), .int mreports, .int mthrown, .ref (A 7), .ref (A 8), .ref (A 9), .int mordering, .int mdetail, .ref (A 10), .int mlength, .int mspot, .int mnumber, .ref (A 11), .int mtolds, .ref (A 12)])), ((A 1), .inl (cy 0, 672, .inl (upd (upd mg ((3 : Int32).toNatClampNeg) ((mg ((3 : Int32).toNatClampNeg)) + 1)) (u2).toNatClampNeg p0))), ((A 2), .inl (cy 0, 672, .inl mkept)), ((A 3), .inl (cy 0, 672, .inl mspare)), ((A 4), .inl (cy 0, 672, .inl mtrial)), ((A 5), .inl (cy 0, 5376, .inl mpast)), ((A 6), .inl (cy 0, 6, .inl mreport)), ((A 7), .inl (cy 0, 5, .inl mpart)), ((A 8), .inl (cy 0, 5, .inl mcome)), ((A 9), .inl (cy 0, 60, .inl morder)), ((A 10), .inl (cy 0, 80, .inl mtext)), ((A 11), .inl (cy 0, 200, .inl mtold)), ((A 12), .inl (cy 0, 672, .inl mahead))]) K 1 0 rfl rfl hw.1 rfl dX9_contracts_29 ?_
  replace hw := hw.2
  refine g_aload_n K 1 dX9_contracts_30 rfl ?_
  refine g_get K (C := RX9) (T := TX9) (N := 22) 0 0 in_X9_contracts_X9 (by decide +kernel) rfl rfl (by decide) rfl dX9_contracts_31 ?_
  refine g_iload K 0 dX9_contracts_34 rfl ?_
  refine g_iconst (v := 1) K dX9_contracts_36 rfl ?_
  refine g_callSr (st' := fun u3 => [.int u3, .ref (A 1)]) K hR [.int x1, .int 1] [.ref (A 1)] (c_X9_contractAt X.2.1 (gxD X) cy sd x1 1 hw) gX9_contracts_X9_contractAt rfl yok_X9_contractAt rfl (by decide) rfl (Nat.le_of_ble_eq_true rfl) dX9_contracts_37 [] rfl (by decide) (fun _ => rfl) ⟨rfl, rfl⟩ (fun u3 hw => ?_)
  refine g_iload_n K 3 dX9_contracts_40 rfl ?_
  refine g_iast (ws' := [((A 0), .inr (10, [.ref (A 1), .ref (A 2), .ref (A 3), .ref (A 4), .int mhasKept, .ref (A 5), .int mpasts, .ref (A 6), .int mreports, .int mthrown, .ref (A 7), .ref (A 8), .ref (A 9), .int mordering, .int mdetail, .ref (A 10), .int mlength, .int mspot, .int mnumber, .ref (A 11), .int mtolds, .ref (A 12)])), ((A 1), .inl (cy 0, 672, .inl (upd (upd (upd mg ((3 : Int32).toNatClampNeg) ((mg ((3 : Int32).toNatClampNeg)) + 1)) (u2).toNatClampNeg p0) (u3).toNatClampNeg p1))), ((A 2), .inl (cy 0, 672, .inl mkept)), ((A 3), .inl (cy 0, 672, .inl mspare)), ((A 4), .inl (cy 0, 672, .inl mtrial)), ((A 5), .inl (cy 0, 5376, .inl mpast)), ((A 6), .inl (cy 0, 6, .inl mreport)), ((A 7), .inl (cy 0, 5, .inl mpart)), ((A 8), .inl (cy 0, 5, .inl mcome)), ((A 9), .inl (cy 0, 60, .inl morder)), ((A 10), .inl (cy 0, 80, .inl mtext)), ((A 11), .inl (cy 0, 200, .inl mtold)), ((A 12), .inl (cy 0, 672, .inl mahead))]) K 1 0 rfl rfl hw.1 rfl dX9_contracts_41 ?_
  replace hw := hw.2
  refine g_aload_n K 1 dX9_contracts_42 rfl ?_
  refine g_get K (C := RX9) (T := TX9) (N := 22) 0 0 in_X9_contracts_X9 (by decide +kernel) rfl rfl (by decide) rfl dX9_contracts_43 ?_
  refine g_iload K 0 dX9_contracts_46 rfl ?_
  refine g_iconst (v := 2) K dX9_contracts_48 rfl ?_
  refine g_callSr (st' := fun u4 => [.int u4, .ref (A 1)]) K hR [.int x1, .int 2] [.ref (A 1)] (c_X9_contractAt X.2.1 (gxD X) cy sd x1 2 hw) gX9_contracts_X9_contractAt rfl yok_X9_contractAt rfl (by decide) rfl (Nat.le_of_ble_eq_true rfl) dX9_contracts_49 [] rfl (by decide) (fun _ => rfl) ⟨rfl, rfl⟩ (fun u4 hw => ?_)
  refine g_iload_n K 4 dX9_contracts_52 rfl ?_
  refine g_iast (ws' := [((A 0), .inr (10, [.ref (A 1), .ref (A 2), .ref (A 3), .ref (A 4), .int mhasKept, .ref (A 5), .int mpasts, .ref (A 6), .int mreports, .int mthrown, .ref (A 7), .ref (A 8), .ref (A 9), .int mordering, .int mdetail, .ref (A 10), .int mlength, .int mspot, .int mnumber, .ref (A 11), .int mtolds, .ref (A 12)])), ((A 1), .inl (cy 0, 672, .inl (upd (upd (upd (upd mg ((3 : Int32).toNatClampNeg) ((mg ((3 : Int32).toNatClampNeg)) + 1)) (u2).toNatClampNeg p0) (u3).toNatClampNeg p1) (u4).toNatClampNeg p2))), ((A 2), .inl (cy 0, 672, .inl mkept)), ((A 3), .inl (cy 0, 672, .inl mspare)), ((A 4), .inl (cy 0, 672, .inl mtrial)), ((A 5), .inl (cy 0, 5376, .inl mpast)), ((A 6), .inl (cy 0, 6, .inl mreport)), ((A 7), .inl (cy 0, 5, .inl mpart)), ((A 8), .inl (cy 0, 5, .inl mcome)), ((A 9), .inl (cy 0, 60, .inl morder)), ((A 10), .inl (cy 0, 80, .inl mtext)), ((A 11), .inl (cy 0, 200, .inl mtold)), ((A 12), .inl (cy 0, 672, .inl mahead))]) K 1 0 rfl rfl hw.1 rfl dX9_contracts_53 ?_
  replace hw := hw.2
  refine g_aload_n K 1 dX9_contracts_54 rfl ?_
  refine g_get K (C := RX9) (T := TX9) (N := 22) 0 0 in_X9_contracts_X9 (by decide +kernel) rfl rfl (by decide) rfl dX9_contracts_55 ?_
  refine g_iload K 0 dX9_contracts_58 rfl ?_
  refine g_iconst (v := 3) K dX9_contracts_60 rfl ?_
  refine g_callSr (st' := fun u5 => [.int u5, .ref (A 1)]) K hR [.int x1, .int 3] [.ref (A 1)] (c_X9_contractAt X.2.1 (gxD X) cy sd x1 3 hw) gX9_contracts_X9_contractAt rfl yok_X9_contractAt rfl (by decide) rfl (Nat.le_of_ble_eq_true rfl) dX9_contracts_61 [] rfl (by decide) (fun _ => rfl) ⟨rfl, rfl⟩ (fun u5 hw => ?_)
  refine g_iload K 5 dX9_contracts_64 rfl ?_
  refine g_iast (ws' := [((A 0), .inr (10, [.ref (A 1), .ref (A 2), .ref (A 3), .ref (A 4), .int mhasKept, .ref (A 5), .int mpasts, .ref (A 6), .int mreports, .int mthrown, .ref (A 7), .ref (A 8), .ref (A 9), .int mordering, .int mdetail, .ref (A 10), .int mlength, .int mspot, .int mnumber, .ref (A 11), .int mtolds, .ref (A 12)])), ((A 1), .inl (cy 0, 672, .inl (upd (upd (upd (upd (upd mg ((3 : Int32).toNatClampNeg) ((mg ((3 : Int32).toNatClampNeg)) + 1)) (u2).toNatClampNeg p0) (u3).toNatClampNeg p1) (u4).toNatClampNeg p2) (u5).toNatClampNeg p3))), ((A 2), .inl (cy 0, 672, .inl mkept)), ((A 3), .inl (cy 0, 672, .inl mspare)), ((A 4), .inl (cy 0, 672, .inl mtrial)), ((A 5), .inl (cy 0, 5376, .inl mpast)), ((A 6), .inl (cy 0, 6, .inl mreport)), ((A 7), .inl (cy 0, 5, .inl mpart)), ((A 8), .inl (cy 0, 5, .inl mcome)), ((A 9), .inl (cy 0, 60, .inl morder)), ((A 10), .inl (cy 0, 80, .inl mtext)), ((A 11), .inl (cy 0, 200, .inl mtold)), ((A 12), .inl (cy 0, 672, .inl mahead))]) K 1 0 rfl rfl hw.1 rfl dX9_contracts_66 ?_
  replace hw := hw.2
  refine g_aload_n K 1 dX9_contracts_67 rfl ?_
  refine g_get K (C := RX9) (T := TX9) (N := 22) 0 0 in_X9_contracts_X9 (by decide +kernel) rfl rfl (by decide) rfl dX9_contracts_68 ?_
  refine g_iload K 0 dX9_contracts_71 rfl ?_
  refine g_iconst (v := 4) K dX9_contracts_73 rfl ?_
  refine g_callSr (st' := fun u6 => [.int u6, .ref (A 1)]) K hR [.int x1, .int 4] [.ref (A 1)] (c_X9_contractAt X.2.1 (gxD X) cy sd x1 4 hw) gX9_contracts_X9_contractAt rfl yok_X9_contractAt rfl (by decide) rfl (Nat.le_of_ble_eq_true rfl) dX9_contracts_74 [] rfl (by decide) (fun _ => rfl) ⟨rfl, rfl⟩ (fun u6 hw => ?_)
  refine g_iconst (v := 0) K dX9_contracts_77 rfl ?_
  refine g_iast (ws' := [((A 0), .inr (10, [.ref (A 1), .ref (A 2), .ref (A 3), .ref (A 4), .int mhasKept, .ref (A 5), .int mpasts, .ref (A 6), .int mreports, .int mthrown, .ref (A 7), .ref (A 8), .ref (A 9), .int mordering, .int mdetail, .ref (A 10), .int mlength, .int mspot, .int mnumber, .ref (A 11), .int mtolds, .ref (A 12)])), ((A 1), .inl (cy 0, 672, .inl (upd (upd (upd (upd (upd (upd mg ((3 : Int32).toNatClampNeg) ((mg ((3 : Int32).toNatClampNeg)) + 1)) (u2).toNatClampNeg p0) (u3).toNatClampNeg p1) (u4).toNatClampNeg p2) (u5).toNatClampNeg p3) (u6).toNatClampNeg 0))), ((A 2), .inl (cy 0, 672, .inl mkept)), ((A 3), .inl (cy 0, 672, .inl mspare)), ((A 4), .inl (cy 0, 672, .inl mtrial)), ((A 5), .inl (cy 0, 5376, .inl mpast)), ((A 6), .inl (cy 0, 6, .inl mreport)), ((A 7), .inl (cy 0, 5, .inl mpart)), ((A 8), .inl (cy 0, 5, .inl mcome)), ((A 9), .inl (cy 0, 60, .inl morder)), ((A 10), .inl (cy 0, 80, .inl mtext)), ((A 11), .inl (cy 0, 200, .inl mtold)), ((A 12), .inl (cy 0, 672, .inl mahead))]) K 1 0 rfl rfl hw.1 rfl dX9_contracts_78 ?_
  replace hw := hw.2
  refine g_iload K 0 dX9_contracts_79 rfl ?_
  exact g_zret K E Er (x1, upd (upd (upd (upd (upd (upd mg ((3 : Int32).toNatClampNeg) ((mg ((3 : Int32).toNatClampNeg)) + 1)) (u2).toNatClampNeg p0) (u3).toNatClampNeg p1) (u4).toNatClampNeg p2) (u5).toNatClampNeg p3) (u6).toNatClampNeg 0) hw rfl rfl rfl (Nat.le_refl _) (Nat.le_refl _) dX9_contracts_81

def wp_X9_contract (mg : XRow) (mpast : XRow) (mpasts : Int32) (p0 : Int32) (p1 : Int32) (p2 : Int32) (p3 : Int32) (post : (Int32 × Int32 × Int32 × XRow × XRow) → Prop) : Prop := wp_X9_againstContract mg p0 p1 p2 p3 (fun u1 : Int32 => (u1 ≤ 0 → (wp_X9_changes_o1 mg mpast mpasts (fun u2 : Int32 × XRow => wp_X9_contracts mg p0 p1 p2 p3 (fun u3 : Int32 × XRow => post (u3.1, u2.1, u1, u3.2, u2.2))))) ∧ (¬ u1 ≤ 0 → (post (0, mpasts, u1, mg, mpast))))
theorem in_X9_contract_X9 : ∀ w ∈ u_ws RX9 TX9 22, w ∈ wsX9_contract := by decide +kernel
set_option maxRecDepth 100000 in
set_option maxHeartbeats 4000000 in
theorem c_X9_contract (l : Launch) (D : va_G) (cy : Nat → ClassId) (sd : xSd) (A : Nat → Nat) (mg : XRow) (mkept : XRow) (mspare : XRow) (mtrial : XRow) (mpast : XRow) (mreport : XRow) (mpart : XRow) (mcome : XRow) (morder : XRow) (mtext : XRow) (mtold : XRow) (mahead : XRow) (mhasKept : Int32) (mpasts : Int32) (mreports : Int32) (mthrown : Int32) (mordering : Int32) (mdetail : Int32) (mlength : Int32) (mspot : Int32) (mnumber : Int32) (mtolds : Int32) (p0 : Int32) (p1 : Int32) (p2 : Int32) (p3 : Int32) {post : (Int32 × Int32 × Int32 × XRow × XRow) → Prop} (hw : wp_X9_contract mg mpast mpasts p0 p1 p2 p3 post) : Ctr l D (xTys cy) sd yX9_contract wsX9_contract ({ frames := 3, cells := 0, slots := 0, locals := 66 } : Room) [.ref (A 0), .int p0, .int p1, .int p2, .int p3] (fun u : Int32 × Int32 × Int32 × XRow × XRow => some (.int u.1)) [((A 0), .inr (10, [.ref (A 1), .ref (A 2), .ref (A 3), .ref (A 4), .int mhasKept, .ref (A 5), .int mpasts, .ref (A 6), .int mreports, .int mthrown, .ref (A 7), .ref (A 8), .ref (A 9), .int mordering, .int mdetail, .ref (A 10), .int mlength, .int mspot, .int mnumber, .ref (A 11), .int mtolds, .ref (A 12)])), ((A 1), .inl (cy 0, 672, .inl mg)), ((A 2), .inl (cy 0, 672, .inl mkept)), ((A 3), .inl (cy 0, 672, .inl mspare)), ((A 4), .inl (cy 0, 672, .inl mtrial)), ((A 5), .inl (cy 0, 5376, .inl mpast)), ((A 6), .inl (cy 0, 6, .inl mreport)), ((A 7), .inl (cy 0, 5, .inl mpart)), ((A 8), .inl (cy 0, 5, .inl mcome)), ((A 9), .inl (cy 0, 60, .inl morder)), ((A 10), .inl (cy 0, 80, .inl mtext)), ((A 11), .inl (cy 0, 200, .inl mtold)), ((A 12), .inl (cy 0, 672, .inl mahead))] (fun u => [((A 0), .inr (10, [.ref (A 1), .ref (A 2), .ref (A 3), .ref (A 4), .int mhasKept, .ref (A 5), .int u.2.1, .ref (A 6), .int mreports, .int u.2.2.1, .ref (A 7), .ref (A 8), .ref (A 9), .int mordering, .int mdetail, .ref (A 10), .int mlength, .int mspot, .int mnumber, .ref (A 11), .int mtolds, .ref (A 12)])), ((A 1), .inl (cy 0, 672, .inl u.2.2.2.1)), ((A 2), .inl (cy 0, 672, .inl mkept)), ((A 3), .inl (cy 0, 672, .inl mspare)), ((A 4), .inl (cy 0, 672, .inl mtrial)), ((A 5), .inl (cy 0, 5376, .inl u.2.2.2.2)), ((A 6), .inl (cy 0, 6, .inl mreport)), ((A 7), .inl (cy 0, 5, .inl mpart)), ((A 8), .inl (cy 0, 5, .inl mcome)), ((A 9), .inl (cy 0, 60, .inl morder)), ((A 10), .inl (cy 0, 80, .inl mtext)), ((A 11), .inl (cy 0, 200, .inl mtold)), ((A 12), .inl (cy 0, 672, .inl mahead))]) post := by
  refine Ctr.of (cc := cX9_contract) (maxL := 5) (ret := (some .int)) (lv0 := [(0, .ref (A 0)), (1, .int p0), (2, .int p1), (3, .int p2), (4, .int p3)]) (by decide) rfl (Nat.le_of_ble_eq_true rfl) rfl ?_
  intro X El hR Er Enm ED E En K
  have K : Cx X cX9_contract RX9 wsX9_contract (xTys cy) sd := K
  have E : X.2.2.2.2.2.2.2.2.2.2.1 = xMQ X (fun u : Int32 × Int32 × Int32 × XRow × XRow => some (.int u.1)) post (fun u => [((A 0), .inr (10, [.ref (A 1), .ref (A 2), .ref (A 3), .ref (A 4), .int mhasKept, .ref (A 5), .int u.2.1, .ref (A 6), .int mreports, .int u.2.2.1, .ref (A 7), .ref (A 8), .ref (A 9), .int mordering, .int mdetail, .ref (A 10), .int mlength, .int mspot, .int mnumber, .ref (A 11), .int mtolds, .ref (A 12)])), ((A 1), .inl (cy 0, 672, .inl u.2.2.2.1)), ((A 2), .inl (cy 0, 672, .inl mkept)), ((A 3), .inl (cy 0, 672, .inl mspare)), ((A 4), .inl (cy 0, 672, .inl mtrial)), ((A 5), .inl (cy 0, 5376, .inl u.2.2.2.2)), ((A 6), .inl (cy 0, 6, .inl mreport)), ((A 7), .inl (cy 0, 5, .inl mpart)), ((A 8), .inl (cy 0, 5, .inl mcome)), ((A 9), .inl (cy 0, 60, .inl morder)), ((A 10), .inl (cy 0, 80, .inl mtext)), ((A 11), .inl (cy 0, 200, .inl mtold)), ((A 12), .inl (cy 0, 672, .inl mahead))]) 0 0 := E
  unfold wp_X9_contract at hw
  refine g_aload_n K 0 dX9_contract_0 rfl ?_
  refine g_aload_n K 0 dX9_contract_1 rfl ?_
  refine g_iload_n K 1 dX9_contract_2 rfl ?_
  refine g_iload_n K 2 dX9_contract_3 rfl ?_
  refine g_iload_n K 3 dX9_contract_4 rfl ?_
  refine g_iload K 4 dX9_contract_5 rfl ?_
  refine g_callVr (st' := fun u1 => [.int u1, .ref (A 0)]) K hR [.int p0, .int p1, .int p2, .int p3] [.ref (A 0)] 0 rfl rfl (c_X9_againstContract X.2.1 (gxD X) cy sd A mg mkept mspare mtrial mpast mreport mpart mcome morder mtext mtold mahead mhasKept mpasts mreports mthrown mordering mdetail mlength mspot mnumber mtolds p0 p1 p2 p3 hw) gX9_contract_X9_againstContract rfl yok_X9_againstContract rfl rfl (by decide) rfl (Nat.le_of_ble_eq_true rfl) dX9_contract_7 [0, 1, 2, 3, 4, 5, 6, 7, 8, 9, 10, 11, 12] rfl (by decide) (fun _ => rfl) ⟨rfl, rfl⟩ (fun u1 hw => ?_)
  refine g_put (ty := .int) (ws' := [((A 0), .inr (10, [.ref (A 1), .ref (A 2), .ref (A 3), .ref (A 4), .int mhasKept, .ref (A 5), .int mpasts, .ref (A 6), .int mreports, .int u1, .ref (A 7), .ref (A 8), .ref (A 9), .int mordering, .int mdetail, .ref (A 10), .int mlength, .int mspot, .int mnumber, .ref (A 11), .int mtolds, .ref (A 12)])), ((A 1), .inl (cy 0, 672, .inl mg)), ((A 2), .inl (cy 0, 672, .inl mkept)), ((A 3), .inl (cy 0, 672, .inl mspare)), ((A 4), .inl (cy 0, 672, .inl mtrial)), ((A 5), .inl (cy 0, 5376, .inl mpast)), ((A 6), .inl (cy 0, 6, .inl mreport)), ((A 7), .inl (cy 0, 5, .inl mpart)), ((A 8), .inl (cy 0, 5, .inl mcome)), ((A 9), .inl (cy 0, 60, .inl morder)), ((A 10), .inl (cy 0, 80, .inl mtext)), ((A 11), .inl (cy 0, 200, .inl mtold)), ((A 12), .inl (cy 0, 672, .inl mahead))]) K (C := RX9) (T := TX9) (N := 22) 0 9 in_X9_contract_X9 tyX9 tyX9_ok nmX9 (by decide +kernel) rfl rfl (by decide) rfl (by decide +kernel) rfl rfl (Nat.le_of_ble_eq_true rfl) rfl dX9_contract_10 ?_
  refine g_aload_n K 0 dX9_contract_13 rfl ?_
  refine g_get K (C := RX9) (T := TX9) (N := 22) 0 9 in_X9_contract_X9 (by decide +kernel) rfl rfl (by decide) rfl dX9_contract_14 ?_
  refine g_if_le (tgt := 22) K dX9_contract_17 (by decide) (fun hc => ?_) (fun hc => ?_)
  · replace hw := hw.1 hc
    refine g_aload_n K 0 dX9_contract_22 rfl ?_
    refine g_aload_n K 0 dX9_contract_23 rfl ?_
    refine g_get K (C := RX9) (T := TX9) (N := 22) 0 0 in_X9_contract_X9 (by decide +kernel) rfl rfl (by decide) rfl dX9_contract_24 ?_
    refine g_callV (st' := fun u2 => []) (ws' := fun u2 => [((A 0), .inr (10, [.ref (A 1), .ref (A 2), .ref (A 3), .ref (A 4), .int mhasKept, .ref (A 5), .int u2.1, .ref (A 6), .int mreports, .int u1, .ref (A 7), .ref (A 8), .ref (A 9), .int mordering, .int mdetail, .ref (A 10), .int mlength, .int mspot, .int mnumber, .ref (A 11), .int mtolds, .ref (A 12)])), ((A 1), .inl (cy 0, 672, .inl mg)), ((A 2), .inl (cy 0, 672, .inl mkept)), ((A 3), .inl (cy 0, 672, .inl mspare)), ((A 4), .inl (cy 0, 672, .inl mtrial)), ((A 5), .inl (cy 0, 5376, .inl u2.2)), ((A 6), .inl (cy 0, 6, .inl mreport)), ((A 7), .inl (cy 0, 5, .inl mpart)), ((A 8), .inl (cy 0, 5, .inl mcome)), ((A 9), .inl (cy 0, 60, .inl morder)), ((A 10), .inl (cy 0, 80, .inl mtext)), ((A 11), .inl (cy 0, 200, .inl mtold)), ((A 12), .inl (cy 0, 672, .inl mahead))]) K hR [.ref (A 1)] [] 0 rfl rfl (c_X9_changes_o1 X.2.1 (gxD X) cy sd A mg mkept mspare mtrial mpast mreport mpart mcome morder mtext mtold mahead mhasKept mpasts mreports u1 mordering mdetail mlength mspot mnumber mtolds hw) gX9_contract_X9_changes rfl yok_X9_changes rfl rfl (by decide) rfl (Nat.le_of_ble_eq_true rfl) dX9_contract_27 [0, 1, 2, 3, 4, 5, 6, 7, 8, 9, 10, 11, 12] rfl (by decide) (fun _ => rfl) (fun _ => rfl) (fun _ => rfl) ⟨rfl, rfl⟩ (fun u2 hw => ?_)
    refine g_aload_n K 0 dX9_contract_30 rfl ?_
    refine g_iload_n K 1 dX9_contract_31 rfl ?_
    refine g_iload_n K 2 dX9_contract_32 rfl ?_
    refine g_iload_n K 3 dX9_contract_33 rfl ?_
    refine g_iload K 4 dX9_contract_34 rfl ?_
    refine g_callV (st' := fun u3 => [.int u3.1]) (ws' := fun u3 => [((A 0), .inr (10, [.ref (A 1), .ref (A 2), .ref (A 3), .ref (A 4), .int mhasKept, .ref (A 5), .int u2.1, .ref (A 6), .int mreports, .int u1, .ref (A 7), .ref (A 8), .ref (A 9), .int mordering, .int mdetail, .ref (A 10), .int mlength, .int mspot, .int mnumber, .ref (A 11), .int mtolds, .ref (A 12)])), ((A 1), .inl (cy 0, 672, .inl u3.2)), ((A 2), .inl (cy 0, 672, .inl mkept)), ((A 3), .inl (cy 0, 672, .inl mspare)), ((A 4), .inl (cy 0, 672, .inl mtrial)), ((A 5), .inl (cy 0, 5376, .inl u2.2)), ((A 6), .inl (cy 0, 6, .inl mreport)), ((A 7), .inl (cy 0, 5, .inl mpart)), ((A 8), .inl (cy 0, 5, .inl mcome)), ((A 9), .inl (cy 0, 60, .inl morder)), ((A 10), .inl (cy 0, 80, .inl mtext)), ((A 11), .inl (cy 0, 200, .inl mtold)), ((A 12), .inl (cy 0, 672, .inl mahead))]) K hR [.int p0, .int p1, .int p2, .int p3] [] 0 rfl rfl (c_X9_contracts X.2.1 (gxD X) cy sd A mg mkept mspare mtrial u2.2 mreport mpart mcome morder mtext mtold mahead mhasKept u2.1 mreports u1 mordering mdetail mlength mspot mnumber mtolds p0 p1 p2 p3 hw) gX9_contract_X9_contracts rfl yok_X9_contracts rfl rfl (by decide) rfl (Nat.le_of_ble_eq_true rfl) dX9_contract_36 [0, 1, 2, 3, 4, 5, 6, 7, 8, 9, 10, 11, 12] rfl (by decide) (fun _ => rfl) (fun _ => rfl) (fun _ => rfl) ⟨rfl, rfl⟩ (fun u3 hw => ?_)
    exact g_zret K E Er (u3.1, u2.1, u1, u3.2, u2.2) hw rfl rfl rfl (Nat.le_refl _) (Nat.le_refl _) dX9_contract_39
  · replace hw := hw.2 hc
    refine g_iconst (v := 0) K dX9_contract_20 rfl ?_
    exact g_zret K E Er (0, mpasts, u1, mg, mpast) hw rfl rfl rfl (Nat.le_refl _) (Nat.le_refl _) dX9_contract_21

def wp_X9_contractOf (mg : XRow) (p0 : Int32) (p1 : Int32) (post : (Int32 × Int32) → Prop) : Prop := vp_in 3 672 ∧ (wp_X9_in p0 0 ((mg ((3 : Int32).toNatClampNeg)) - 1) (fun u1 : Bool => (u1 = true → (wp_X9_in p1 0 4 (fun u2 : Bool => (u2 = true → (wp_X9_contractAt p0 p1 (fun u3 : Int32 => vp_in u3 672 ∧ (post (mg (u3).toNatClampNeg, 0))))) ∧ (u2 = false → (post (0, 2)))))) ∧ (u1 = false → (post (0, 1)))))
theorem in_X9_contractOf_X9 : ∀ w ∈ u_ws RX9 TX9 22, w ∈ wsX9_contractOf := by decide +kernel
set_option maxRecDepth 100000 in
set_option maxHeartbeats 4000000 in
theorem c_X9_contractOf (l : Launch) (D : va_G) (cy : Nat → ClassId) (sd : xSd) (A : Nat → Nat) (mg : XRow) (mkept : XRow) (mspare : XRow) (mtrial : XRow) (mpast : XRow) (mreport : XRow) (mpart : XRow) (mcome : XRow) (morder : XRow) (mtext : XRow) (mtold : XRow) (mahead : XRow) (mhasKept : Int32) (mpasts : Int32) (mreports : Int32) (mthrown : Int32) (mordering : Int32) (mdetail : Int32) (mlength : Int32) (mspot : Int32) (mnumber : Int32) (mtolds : Int32) (p0 : Int32) (p1 : Int32) {post : (Int32 × Int32) → Prop} (hw : wp_X9_contractOf mg p0 p1 post) : Ctr l D (xTys cy) sd yX9_contractOf wsX9_contractOf ({ frames := 1, cells := 0, slots := 0, locals := 22 } : Room) [.ref (A 0), .int p0, .int p1] (fun u : Int32 × Int32 => some (.int u.1)) [((A 0), .inr (10, [.ref (A 1), .ref (A 2), .ref (A 3), .ref (A 4), .int mhasKept, .ref (A 5), .int mpasts, .ref (A 6), .int mreports, .int mthrown, .ref (A 7), .ref (A 8), .ref (A 9), .int mordering, .int mdetail, .ref (A 10), .int mlength, .int mspot, .int mnumber, .ref (A 11), .int mtolds, .ref (A 12)])), ((A 1), .inl (cy 0, 672, .inl mg)), ((A 2), .inl (cy 0, 672, .inl mkept)), ((A 3), .inl (cy 0, 672, .inl mspare)), ((A 4), .inl (cy 0, 672, .inl mtrial)), ((A 5), .inl (cy 0, 5376, .inl mpast)), ((A 6), .inl (cy 0, 6, .inl mreport)), ((A 7), .inl (cy 0, 5, .inl mpart)), ((A 8), .inl (cy 0, 5, .inl mcome)), ((A 9), .inl (cy 0, 60, .inl morder)), ((A 10), .inl (cy 0, 80, .inl mtext)), ((A 11), .inl (cy 0, 200, .inl mtold)), ((A 12), .inl (cy 0, 672, .inl mahead))] (fun u => [((A 0), .inr (10, [.ref (A 1), .ref (A 2), .ref (A 3), .ref (A 4), .int mhasKept, .ref (A 5), .int mpasts, .ref (A 6), .int mreports, .int u.2, .ref (A 7), .ref (A 8), .ref (A 9), .int mordering, .int mdetail, .ref (A 10), .int mlength, .int mspot, .int mnumber, .ref (A 11), .int mtolds, .ref (A 12)])), ((A 1), .inl (cy 0, 672, .inl mg)), ((A 2), .inl (cy 0, 672, .inl mkept)), ((A 3), .inl (cy 0, 672, .inl mspare)), ((A 4), .inl (cy 0, 672, .inl mtrial)), ((A 5), .inl (cy 0, 5376, .inl mpast)), ((A 6), .inl (cy 0, 6, .inl mreport)), ((A 7), .inl (cy 0, 5, .inl mpart)), ((A 8), .inl (cy 0, 5, .inl mcome)), ((A 9), .inl (cy 0, 60, .inl morder)), ((A 10), .inl (cy 0, 80, .inl mtext)), ((A 11), .inl (cy 0, 200, .inl mtold)), ((A 12), .inl (cy 0, 672, .inl mahead))]) post := by
  refine Ctr.of (cc := cX9_contractOf) (maxL := 3) (ret := (some .int)) (lv0 := [(0, .ref (A 0)), (1, .int p0), (2, .int p1)]) (by decide) rfl (Nat.le_of_ble_eq_true rfl) rfl ?_
  intro X El hR Er Enm ED E En K
  have K : Cx X cX9_contractOf RX9 wsX9_contractOf (xTys cy) sd := K
  have E : X.2.2.2.2.2.2.2.2.2.2.1 = xMQ X (fun u : Int32 × Int32 => some (.int u.1)) post (fun u => [((A 0), .inr (10, [.ref (A 1), .ref (A 2), .ref (A 3), .ref (A 4), .int mhasKept, .ref (A 5), .int mpasts, .ref (A 6), .int mreports, .int u.2, .ref (A 7), .ref (A 8), .ref (A 9), .int mordering, .int mdetail, .ref (A 10), .int mlength, .int mspot, .int mnumber, .ref (A 11), .int mtolds, .ref (A 12)])), ((A 1), .inl (cy 0, 672, .inl mg)), ((A 2), .inl (cy 0, 672, .inl mkept)), ((A 3), .inl (cy 0, 672, .inl mspare)), ((A 4), .inl (cy 0, 672, .inl mtrial)), ((A 5), .inl (cy 0, 5376, .inl mpast)), ((A 6), .inl (cy 0, 6, .inl mreport)), ((A 7), .inl (cy 0, 5, .inl mpart)), ((A 8), .inl (cy 0, 5, .inl mcome)), ((A 9), .inl (cy 0, 60, .inl morder)), ((A 10), .inl (cy 0, 80, .inl mtext)), ((A 11), .inl (cy 0, 200, .inl mtold)), ((A 12), .inl (cy 0, 672, .inl mahead))]) 0 0 := E
  unfold wp_X9_contractOf at hw
  refine g_aload_n K 0 dX9_contractOf_0 rfl ?_
  refine g_iload_n K 1 dX9_contractOf_1 rfl ?_
  refine g_iconst (v := 0) K dX9_contractOf_2 rfl ?_
  refine g_aload_n K 0 dX9_contractOf_3 rfl ?_
  refine g_get K (C := RX9) (T := TX9) (N := 22) 0 0 in_X9_contractOf_X9 (by decide +kernel) rfl rfl (by decide) rfl dX9_contractOf_4 ?_
  refine g_iconst (v := 3) K dX9_contractOf_7 rfl ?_
  refine g_iald K 1 0 rfl rfl hw.1 dX9_contractOf_8 ?_
  replace hw := hw.2
  refine g_iconst (v := 1) K dX9_contractOf_9 rfl ?_
  refine g_isub K dX9_contractOf_10 ?_
  refine g_callSr (st' := fun u1 => [.int (bI u1), .ref (A 0)]) K hR [.int p0, .int 0, .int ((mg ((3 : Int32).toNatClampNeg)) - 1)] [.ref (A 0)] (c_X9_in X.2.1 (gxD X) cy sd p0 0 ((mg ((3 : Int32).toNatClampNeg)) - 1) hw) gX9_contractOf_X9_in rfl yok_X9_in rfl (by decide) rfl (Nat.le_of_ble_eq_true rfl) dX9_contractOf_11 [] rfl (by decide) (fun _ => rfl) ⟨rfl, rfl⟩ (fun u1 hw => ?_)
  refine g_ifb_eq (tgt := 34) K dX9_contractOf_14 (by decide) (fun hc => ?_) (fun hc => ?_)
  · replace hw := hw.2 hc
    refine g_iconst (v := 1) K dX9_contractOf_34 rfl ?_
    refine g_put (ty := .int) (ws' := [((A 0), .inr (10, [.ref (A 1), .ref (A 2), .ref (A 3), .ref (A 4), .int mhasKept, .ref (A 5), .int mpasts, .ref (A 6), .int mreports, .int 1, .ref (A 7), .ref (A 8), .ref (A 9), .int mordering, .int mdetail, .ref (A 10), .int mlength, .int mspot, .int mnumber, .ref (A 11), .int mtolds, .ref (A 12)])), ((A 1), .inl (cy 0, 672, .inl mg)), ((A 2), .inl (cy 0, 672, .inl mkept)), ((A 3), .inl (cy 0, 672, .inl mspare)), ((A 4), .inl (cy 0, 672, .inl mtrial)), ((A 5), .inl (cy 0, 5376, .inl mpast)), ((A 6), .inl (cy 0, 6, .inl mreport)), ((A 7), .inl (cy 0, 5, .inl mpart)), ((A 8), .inl (cy 0, 5, .inl mcome)), ((A 9), .inl (cy 0, 60, .inl morder)), ((A 10), .inl (cy 0, 80, .inl mtext)), ((A 11), .inl (cy 0, 200, .inl mtold)), ((A 12), .inl (cy 0, 672, .inl mahead))]) K (C := RX9) (T := TX9) (N := 22) 0 9 in_X9_contractOf_X9 tyX9 tyX9_ok nmX9 (by decide +kernel) rfl rfl (by decide) rfl (by decide +kernel) rfl rfl (Nat.le_of_ble_eq_true rfl) rfl dX9_contractOf_35 ?_
    refine g_aload_n K 0 dX9_contractOf_38 rfl ?_
    refine g_get K (C := RX9) (T := TX9) (N := 22) 0 9 in_X9_contractOf_X9 (by decide +kernel) rfl rfl (by decide) rfl dX9_contractOf_39 ?_
    refine g_if_le (tgt := 49) K dX9_contractOf_42 (by decide) (fun hc => absurd hc (by decide)) (fun _ => ?_)
    refine g_iconst (v := 0) K dX9_contractOf_45 rfl ?_
    refine g_goto (tgt := 59) K dX9_contractOf_46 (by decide) ?_
    exact g_zret K E Er (0, 1) hw rfl rfl rfl (Nat.le_refl _) (Nat.le_refl _) dX9_contractOf_59
  · replace hw := hw.1 hc
    refine g_iload_n K 2 dX9_contractOf_17 rfl ?_
    refine g_iconst (v := 0) K dX9_contractOf_18 rfl ?_
    refine g_iconst (v := 4) K dX9_contractOf_19 rfl ?_
    refine g_callSr (st' := fun u2 => [.int (bI u2), .ref (A 0)]) K hR [.int p1, .int 0, .int 4] [.ref (A 0)] (c_X9_in X.2.1 (gxD X) cy sd p1 0 4 hw) gX9_contractOf_X9_in rfl yok_X9_in rfl (by decide) rfl (Nat.le_of_ble_eq_true rfl) dX9_contractOf_20 [] rfl (by decide) (fun _ => rfl) ⟨rfl, rfl⟩ (fun u2 hw => ?_)
    refine g_ifb_eq (tgt := 30) K dX9_contractOf_23 (by decide) (fun hc => ?_) (fun hc => ?_)
    · replace hw := hw.2 hc
      refine g_iconst (v := 2) K dX9_contractOf_30 rfl ?_
      refine g_goto (tgt := 35) K dX9_contractOf_31 (by decide) ?_
      refine g_put (ty := .int) (ws' := [((A 0), .inr (10, [.ref (A 1), .ref (A 2), .ref (A 3), .ref (A 4), .int mhasKept, .ref (A 5), .int mpasts, .ref (A 6), .int mreports, .int 2, .ref (A 7), .ref (A 8), .ref (A 9), .int mordering, .int mdetail, .ref (A 10), .int mlength, .int mspot, .int mnumber, .ref (A 11), .int mtolds, .ref (A 12)])), ((A 1), .inl (cy 0, 672, .inl mg)), ((A 2), .inl (cy 0, 672, .inl mkept)), ((A 3), .inl (cy 0, 672, .inl mspare)), ((A 4), .inl (cy 0, 672, .inl mtrial)), ((A 5), .inl (cy 0, 5376, .inl mpast)), ((A 6), .inl (cy 0, 6, .inl mreport)), ((A 7), .inl (cy 0, 5, .inl mpart)), ((A 8), .inl (cy 0, 5, .inl mcome)), ((A 9), .inl (cy 0, 60, .inl morder)), ((A 10), .inl (cy 0, 80, .inl mtext)), ((A 11), .inl (cy 0, 200, .inl mtold)), ((A 12), .inl (cy 0, 672, .inl mahead))]) K (C := RX9) (T := TX9) (N := 22) 0 9 in_X9_contractOf_X9 tyX9 tyX9_ok nmX9 (by decide +kernel) rfl rfl (by decide) rfl (by decide +kernel) rfl rfl (Nat.le_of_ble_eq_true rfl) rfl dX9_contractOf_35 ?_
      refine g_aload_n K 0 dX9_contractOf_38 rfl ?_
      refine g_get K (C := RX9) (T := TX9) (N := 22) 0 9 in_X9_contractOf_X9 (by decide +kernel) rfl rfl (by decide) rfl dX9_contractOf_39 ?_
      refine g_if_le (tgt := 49) K dX9_contractOf_42 (by decide) (fun hc => absurd hc (by decide)) (fun _ => ?_)
      refine g_iconst (v := 0) K dX9_contractOf_45 rfl ?_
      refine g_goto (tgt := 59) K dX9_contractOf_46 (by decide) ?_
      exact g_zret K E Er (0, 2) hw rfl rfl rfl (Nat.le_refl _) (Nat.le_refl _) dX9_contractOf_59
    · replace hw := hw.1 hc
      refine g_iconst (v := 0) K dX9_contractOf_26 rfl ?_
      refine g_goto (tgt := 35) K dX9_contractOf_27 (by decide) ?_
      refine g_put (ty := .int) (ws' := [((A 0), .inr (10, [.ref (A 1), .ref (A 2), .ref (A 3), .ref (A 4), .int mhasKept, .ref (A 5), .int mpasts, .ref (A 6), .int mreports, .int 0, .ref (A 7), .ref (A 8), .ref (A 9), .int mordering, .int mdetail, .ref (A 10), .int mlength, .int mspot, .int mnumber, .ref (A 11), .int mtolds, .ref (A 12)])), ((A 1), .inl (cy 0, 672, .inl mg)), ((A 2), .inl (cy 0, 672, .inl mkept)), ((A 3), .inl (cy 0, 672, .inl mspare)), ((A 4), .inl (cy 0, 672, .inl mtrial)), ((A 5), .inl (cy 0, 5376, .inl mpast)), ((A 6), .inl (cy 0, 6, .inl mreport)), ((A 7), .inl (cy 0, 5, .inl mpart)), ((A 8), .inl (cy 0, 5, .inl mcome)), ((A 9), .inl (cy 0, 60, .inl morder)), ((A 10), .inl (cy 0, 80, .inl mtext)), ((A 11), .inl (cy 0, 200, .inl mtold)), ((A 12), .inl (cy 0, 672, .inl mahead))]) K (C := RX9) (T := TX9) (N := 22) 0 9 in_X9_contractOf_X9 tyX9 tyX9_ok nmX9 (by decide +kernel) rfl rfl (by decide) rfl (by decide +kernel) rfl rfl (Nat.le_of_ble_eq_true rfl) rfl dX9_contractOf_35 ?_
      refine g_aload_n K 0 dX9_contractOf_38 rfl ?_
      refine g_get K (C := RX9) (T := TX9) (N := 22) 0 9 in_X9_contractOf_X9 (by decide +kernel) rfl rfl (by decide) rfl dX9_contractOf_39 ?_
      refine g_if_le (tgt := 49) K dX9_contractOf_42 (by decide) (fun _ => ?_) (fun hc => absurd (by decide) hc)
      refine g_aload_n K 0 dX9_contractOf_49 rfl ?_
      refine g_get K (C := RX9) (T := TX9) (N := 22) 0 0 in_X9_contractOf_X9 (by decide +kernel) rfl rfl (by decide) rfl dX9_contractOf_50 ?_
      refine g_iload_n K 1 dX9_contractOf_53 rfl ?_
      refine g_iload_n K 2 dX9_contractOf_54 rfl ?_
      refine g_callSr (st' := fun u3 => [.int u3, .ref (A 1)]) K hR [.int p0, .int p1] [.ref (A 1)] (c_X9_contractAt X.2.1 (gxD X) cy sd p0 p1 hw) gX9_contractOf_X9_contractAt rfl yok_X9_contractAt rfl (by decide) rfl (Nat.le_of_ble_eq_true rfl) dX9_contractOf_55 [] rfl (by decide) (fun _ => rfl) ⟨rfl, rfl⟩ (fun u3 hw => ?_)
      refine g_iald K 1 0 rfl rfl hw.1 dX9_contractOf_58 ?_
      replace hw := hw.2
      exact g_zret K E Er (mg (u3).toNatClampNeg, 0) hw rfl rfl rfl (Nat.le_refl _) (Nat.le_refl _) dX9_contractOf_59

def wp_X9_isFor (mg : XRow) (p0 : Int32) (p1 : Int32) (post : Bool → Prop) : Prop := wp_X9_contractAt p0 0 (fun u1 : Int32 => vp_in u1 672 ∧ (wp_X9_baleAt p1 5 (fun u2 : Int32 => vp_in u2 672 ∧ (((mg (u1).toNatClampNeg) = (mg (u2).toNatClampNeg) → (post true)) ∧ (¬ (mg (u1).toNatClampNeg) = (mg (u2).toNatClampNeg) → (post false))))))
theorem in_X9_isFor_X9 : ∀ w ∈ u_ws RX9 TX9 22, w ∈ wsX9_isFor := by decide +kernel
set_option maxRecDepth 100000 in
set_option maxHeartbeats 4000000 in
theorem c_X9_isFor (l : Launch) (D : va_G) (cy : Nat → ClassId) (sd : xSd) (A : Nat → Nat) (mg : XRow) (mkept : XRow) (mspare : XRow) (mtrial : XRow) (mpast : XRow) (mreport : XRow) (mpart : XRow) (mcome : XRow) (morder : XRow) (mtext : XRow) (mtold : XRow) (mahead : XRow) (mhasKept : Int32) (mpasts : Int32) (mreports : Int32) (mthrown : Int32) (mordering : Int32) (mdetail : Int32) (mlength : Int32) (mspot : Int32) (mnumber : Int32) (mtolds : Int32) (p0 : Int32) (p1 : Int32) {post : Bool → Prop} (hw : wp_X9_isFor mg p0 p1 post) : Ctr l D (xTys cy) sd yX9_isFor wsX9_isFor ({ frames := 1, cells := 0, slots := 0, locals := 21 } : Room) [.ref (A 0), .int p0, .int p1] (fun u : Bool => some (.int (bI u))) [((A 0), .inr (10, [.ref (A 1), .ref (A 2), .ref (A 3), .ref (A 4), .int mhasKept, .ref (A 5), .int mpasts, .ref (A 6), .int mreports, .int mthrown, .ref (A 7), .ref (A 8), .ref (A 9), .int mordering, .int mdetail, .ref (A 10), .int mlength, .int mspot, .int mnumber, .ref (A 11), .int mtolds, .ref (A 12)])), ((A 1), .inl (cy 0, 672, .inl mg)), ((A 2), .inl (cy 0, 672, .inl mkept)), ((A 3), .inl (cy 0, 672, .inl mspare)), ((A 4), .inl (cy 0, 672, .inl mtrial)), ((A 5), .inl (cy 0, 5376, .inl mpast)), ((A 6), .inl (cy 0, 6, .inl mreport)), ((A 7), .inl (cy 0, 5, .inl mpart)), ((A 8), .inl (cy 0, 5, .inl mcome)), ((A 9), .inl (cy 0, 60, .inl morder)), ((A 10), .inl (cy 0, 80, .inl mtext)), ((A 11), .inl (cy 0, 200, .inl mtold)), ((A 12), .inl (cy 0, 672, .inl mahead))] (fun _ => [((A 0), .inr (10, [.ref (A 1), .ref (A 2), .ref (A 3), .ref (A 4), .int mhasKept, .ref (A 5), .int mpasts, .ref (A 6), .int mreports, .int mthrown, .ref (A 7), .ref (A 8), .ref (A 9), .int mordering, .int mdetail, .ref (A 10), .int mlength, .int mspot, .int mnumber, .ref (A 11), .int mtolds, .ref (A 12)])), ((A 1), .inl (cy 0, 672, .inl mg)), ((A 2), .inl (cy 0, 672, .inl mkept)), ((A 3), .inl (cy 0, 672, .inl mspare)), ((A 4), .inl (cy 0, 672, .inl mtrial)), ((A 5), .inl (cy 0, 5376, .inl mpast)), ((A 6), .inl (cy 0, 6, .inl mreport)), ((A 7), .inl (cy 0, 5, .inl mpart)), ((A 8), .inl (cy 0, 5, .inl mcome)), ((A 9), .inl (cy 0, 60, .inl morder)), ((A 10), .inl (cy 0, 80, .inl mtext)), ((A 11), .inl (cy 0, 200, .inl mtold)), ((A 12), .inl (cy 0, 672, .inl mahead))]) post := by
  refine Ctr.of (cc := cX9_isFor) (maxL := 3) (ret := (some .boolean)) (lv0 := [(0, .ref (A 0)), (1, .int p0), (2, .int p1)]) (by decide) rfl (Nat.le_of_ble_eq_true rfl) rfl ?_
  intro X El hR Er Enm ED E En K
  have K : Cx X cX9_isFor RX9 wsX9_isFor (xTys cy) sd := K
  have E : X.2.2.2.2.2.2.2.2.2.2.1 = xMQ X (fun u : Bool => some (.int (bI u))) post (fun _ => [((A 0), .inr (10, [.ref (A 1), .ref (A 2), .ref (A 3), .ref (A 4), .int mhasKept, .ref (A 5), .int mpasts, .ref (A 6), .int mreports, .int mthrown, .ref (A 7), .ref (A 8), .ref (A 9), .int mordering, .int mdetail, .ref (A 10), .int mlength, .int mspot, .int mnumber, .ref (A 11), .int mtolds, .ref (A 12)])), ((A 1), .inl (cy 0, 672, .inl mg)), ((A 2), .inl (cy 0, 672, .inl mkept)), ((A 3), .inl (cy 0, 672, .inl mspare)), ((A 4), .inl (cy 0, 672, .inl mtrial)), ((A 5), .inl (cy 0, 5376, .inl mpast)), ((A 6), .inl (cy 0, 6, .inl mreport)), ((A 7), .inl (cy 0, 5, .inl mpart)), ((A 8), .inl (cy 0, 5, .inl mcome)), ((A 9), .inl (cy 0, 60, .inl morder)), ((A 10), .inl (cy 0, 80, .inl mtext)), ((A 11), .inl (cy 0, 200, .inl mtold)), ((A 12), .inl (cy 0, 672, .inl mahead))]) 0 0 := E
  unfold wp_X9_isFor at hw
  refine g_aload_n K 0 dX9_isFor_0 rfl ?_
  refine g_get K (C := RX9) (T := TX9) (N := 22) 0 0 in_X9_isFor_X9 (by decide +kernel) rfl rfl (by decide) rfl dX9_isFor_1 ?_
  refine g_iload_n K 1 dX9_isFor_4 rfl ?_
  refine g_iconst (v := 0) K dX9_isFor_5 rfl ?_
  refine g_callSr (st' := fun u1 => [.int u1, .ref (A 1)]) K hR [.int p0, .int 0] [.ref (A 1)] (c_X9_contractAt X.2.1 (gxD X) cy sd p0 0 hw) gX9_isFor_X9_contractAt rfl yok_X9_contractAt rfl (by decide) rfl (Nat.le_of_ble_eq_true rfl) dX9_isFor_6 [] rfl (by decide) (fun _ => rfl) ⟨rfl, rfl⟩ (fun u1 hw => ?_)
  refine g_iald K 1 0 rfl rfl hw.1 dX9_isFor_9 ?_
  replace hw := hw.2
  refine g_aload_n K 0 dX9_isFor_10 rfl ?_
  refine g_get K (C := RX9) (T := TX9) (N := 22) 0 0 in_X9_isFor_X9 (by decide +kernel) rfl rfl (by decide) rfl dX9_isFor_11 ?_
  refine g_iload_n K 2 dX9_isFor_14 rfl ?_
  refine g_iconst (v := 5) K dX9_isFor_15 rfl ?_
  refine g_callSr (st' := fun u2 => [.int u2, .ref (A 1), .int (mg (u1).toNatClampNeg)]) K hR [.int p1, .int 5] [.ref (A 1), .int (mg (u1).toNatClampNeg)] (c_X9_baleAt X.2.1 (gxD X) cy sd p1 5 hw) gX9_isFor_X9_baleAt rfl yok_X9_baleAt rfl (by decide) rfl (Nat.le_of_ble_eq_true rfl) dX9_isFor_16 [] rfl (by decide) (fun _ => rfl) ⟨rfl, rfl⟩ (fun u2 hw => ?_)
  refine g_iald K 1 0 rfl rfl hw.1 dX9_isFor_19 ?_
  replace hw := hw.2
  refine g_icmp_ne (tgt := 27) K dX9_isFor_20 (by decide) (fun hc => ?_) (fun hc => ?_)
  · replace hw := hw.2 hc
    refine g_iconst (v := 0) K dX9_isFor_27 rfl ?_
    exact g_zret K E Er false hw rfl rfl rfl (Nat.le_refl _) (Nat.le_refl _) dX9_isFor_28
  · replace hw := hw.1 hc
    refine g_iconst (v := 1) K dX9_isFor_23 rfl ?_
    refine g_goto (tgt := 28) K dX9_isFor_24 (by decide) ?_
    exact g_zret K E Er true hw rfl rfl rfl (Nat.le_refl _) (Nat.le_refl _) dX9_isFor_28

def wp_X9_reaches (mg : XRow) (p0 : Int32) (p1 : Int32) (post : Bool → Prop) : Prop := wp_X9_isFor mg p1 p0 (fun u1 : Bool => (u1 = true → (wp_X9_baleAt p0 6 (fun u2 : Int32 => vp_in u2 672 ∧ (wp_X9_contractAt p1 1 (fun u3 : Int32 => vp_in u3 672 ∧ (((mg (u2).toNatClampNeg) < (mg (u3).toNatClampNeg) → (post false)) ∧ (¬ (mg (u2).toNatClampNeg) < (mg (u3).toNatClampNeg) → (post true)))))))) ∧ (u1 = false → (post false)))
theorem in_X9_reaches_X9 : ∀ w ∈ u_ws RX9 TX9 22, w ∈ wsX9_reaches := by decide +kernel
set_option maxRecDepth 100000 in
set_option maxHeartbeats 4000000 in
theorem c_X9_reaches (l : Launch) (D : va_G) (cy : Nat → ClassId) (sd : xSd) (A : Nat → Nat) (mg : XRow) (mkept : XRow) (mspare : XRow) (mtrial : XRow) (mpast : XRow) (mreport : XRow) (mpart : XRow) (mcome : XRow) (morder : XRow) (mtext : XRow) (mtold : XRow) (mahead : XRow) (mhasKept : Int32) (mpasts : Int32) (mreports : Int32) (mthrown : Int32) (mordering : Int32) (mdetail : Int32) (mlength : Int32) (mspot : Int32) (mnumber : Int32) (mtolds : Int32) (p0 : Int32) (p1 : Int32) {post : Bool → Prop} (hw : wp_X9_reaches mg p0 p1 post) : Ctr l D (xTys cy) sd yX9_reaches wsX9_reaches ({ frames := 2, cells := 0, slots := 0, locals := 43 } : Room) [.ref (A 0), .int p0, .int p1] (fun u : Bool => some (.int (bI u))) [((A 0), .inr (10, [.ref (A 1), .ref (A 2), .ref (A 3), .ref (A 4), .int mhasKept, .ref (A 5), .int mpasts, .ref (A 6), .int mreports, .int mthrown, .ref (A 7), .ref (A 8), .ref (A 9), .int mordering, .int mdetail, .ref (A 10), .int mlength, .int mspot, .int mnumber, .ref (A 11), .int mtolds, .ref (A 12)])), ((A 1), .inl (cy 0, 672, .inl mg)), ((A 2), .inl (cy 0, 672, .inl mkept)), ((A 3), .inl (cy 0, 672, .inl mspare)), ((A 4), .inl (cy 0, 672, .inl mtrial)), ((A 5), .inl (cy 0, 5376, .inl mpast)), ((A 6), .inl (cy 0, 6, .inl mreport)), ((A 7), .inl (cy 0, 5, .inl mpart)), ((A 8), .inl (cy 0, 5, .inl mcome)), ((A 9), .inl (cy 0, 60, .inl morder)), ((A 10), .inl (cy 0, 80, .inl mtext)), ((A 11), .inl (cy 0, 200, .inl mtold)), ((A 12), .inl (cy 0, 672, .inl mahead))] (fun _ => [((A 0), .inr (10, [.ref (A 1), .ref (A 2), .ref (A 3), .ref (A 4), .int mhasKept, .ref (A 5), .int mpasts, .ref (A 6), .int mreports, .int mthrown, .ref (A 7), .ref (A 8), .ref (A 9), .int mordering, .int mdetail, .ref (A 10), .int mlength, .int mspot, .int mnumber, .ref (A 11), .int mtolds, .ref (A 12)])), ((A 1), .inl (cy 0, 672, .inl mg)), ((A 2), .inl (cy 0, 672, .inl mkept)), ((A 3), .inl (cy 0, 672, .inl mspare)), ((A 4), .inl (cy 0, 672, .inl mtrial)), ((A 5), .inl (cy 0, 5376, .inl mpast)), ((A 6), .inl (cy 0, 6, .inl mreport)), ((A 7), .inl (cy 0, 5, .inl mpart)), ((A 8), .inl (cy 0, 5, .inl mcome)), ((A 9), .inl (cy 0, 60, .inl morder)), ((A 10), .inl (cy 0, 80, .inl mtext)), ((A 11), .inl (cy 0, 200, .inl mtold)), ((A 12), .inl (cy 0, 672, .inl mahead))]) post := by
  refine Ctr.of (cc := cX9_reaches) (maxL := 3) (ret := (some .boolean)) (lv0 := [(0, .ref (A 0)), (1, .int p0), (2, .int p1)]) (by decide) rfl (Nat.le_of_ble_eq_true rfl) rfl ?_
  intro X El hR Er Enm ED E En K
  have K : Cx X cX9_reaches RX9 wsX9_reaches (xTys cy) sd := K
  have E : X.2.2.2.2.2.2.2.2.2.2.1 = xMQ X (fun u : Bool => some (.int (bI u))) post (fun _ => [((A 0), .inr (10, [.ref (A 1), .ref (A 2), .ref (A 3), .ref (A 4), .int mhasKept, .ref (A 5), .int mpasts, .ref (A 6), .int mreports, .int mthrown, .ref (A 7), .ref (A 8), .ref (A 9), .int mordering, .int mdetail, .ref (A 10), .int mlength, .int mspot, .int mnumber, .ref (A 11), .int mtolds, .ref (A 12)])), ((A 1), .inl (cy 0, 672, .inl mg)), ((A 2), .inl (cy 0, 672, .inl mkept)), ((A 3), .inl (cy 0, 672, .inl mspare)), ((A 4), .inl (cy 0, 672, .inl mtrial)), ((A 5), .inl (cy 0, 5376, .inl mpast)), ((A 6), .inl (cy 0, 6, .inl mreport)), ((A 7), .inl (cy 0, 5, .inl mpart)), ((A 8), .inl (cy 0, 5, .inl mcome)), ((A 9), .inl (cy 0, 60, .inl morder)), ((A 10), .inl (cy 0, 80, .inl mtext)), ((A 11), .inl (cy 0, 200, .inl mtold)), ((A 12), .inl (cy 0, 672, .inl mahead))]) 0 0 := E
  unfold wp_X9_reaches at hw
  refine g_aload_n K 0 dX9_reaches_0 rfl ?_
  refine g_iload_n K 2 dX9_reaches_1 rfl ?_
  refine g_iload_n K 1 dX9_reaches_2 rfl ?_
  refine g_callVr (st' := fun u1 => [.int (bI u1)]) K hR [.int p1, .int p0] [] 0 rfl rfl (c_X9_isFor X.2.1 (gxD X) cy sd A mg mkept mspare mtrial mpast mreport mpart mcome morder mtext mtold mahead mhasKept mpasts mreports mthrown mordering mdetail mlength mspot mnumber mtolds p1 p0 hw) gX9_reaches_X9_isFor rfl yok_X9_isFor rfl rfl (by decide) rfl (Nat.le_of_ble_eq_true rfl) dX9_reaches_3 [0, 1, 2, 3, 4, 5, 6, 7, 8, 9, 10, 11, 12] rfl (by decide) (fun _ => rfl) ⟨rfl, rfl⟩ (fun u1 hw => ?_)
  refine g_ifb_eq (tgt := 37) K dX9_reaches_6 (by decide) (fun hc => ?_) (fun hc => ?_)
  · replace hw := hw.2 hc
    refine g_iconst (v := 0) K dX9_reaches_37 rfl ?_
    exact g_zret K E Er false hw rfl rfl rfl (Nat.le_refl _) (Nat.le_refl _) dX9_reaches_38
  · replace hw := hw.1 hc
    refine g_aload_n K 0 dX9_reaches_9 rfl ?_
    refine g_get K (C := RX9) (T := TX9) (N := 22) 0 0 in_X9_reaches_X9 (by decide +kernel) rfl rfl (by decide) rfl dX9_reaches_10 ?_
    refine g_iload_n K 1 dX9_reaches_13 rfl ?_
    refine g_bipush (v := 6) K dX9_reaches_14 rfl ?_
    refine g_callSr (st' := fun u2 => [.int u2, .ref (A 1)]) K hR [.int p0, .int 6] [.ref (A 1)] (c_X9_baleAt X.2.1 (gxD X) cy sd p0 6 hw) gX9_reaches_X9_baleAt rfl yok_X9_baleAt rfl (by decide) rfl (Nat.le_of_ble_eq_true rfl) dX9_reaches_16 [] rfl (by decide) (fun _ => rfl) ⟨rfl, rfl⟩ (fun u2 hw => ?_)
    refine g_iald K 1 0 rfl rfl hw.1 dX9_reaches_19 ?_
    replace hw := hw.2
    refine g_aload_n K 0 dX9_reaches_20 rfl ?_
    refine g_get K (C := RX9) (T := TX9) (N := 22) 0 0 in_X9_reaches_X9 (by decide +kernel) rfl rfl (by decide) rfl dX9_reaches_21 ?_
    refine g_iload_n K 2 dX9_reaches_24 rfl ?_
    refine g_iconst (v := 1) K dX9_reaches_25 rfl ?_
    refine g_callSr (st' := fun u3 => [.int u3, .ref (A 1), .int (mg (u2).toNatClampNeg)]) K hR [.int p1, .int 1] [.ref (A 1), .int (mg (u2).toNatClampNeg)] (c_X9_contractAt X.2.1 (gxD X) cy sd p1 1 hw) gX9_reaches_X9_contractAt rfl yok_X9_contractAt rfl (by decide) rfl (Nat.le_of_ble_eq_true rfl) dX9_reaches_26 [] rfl (by decide) (fun _ => rfl) ⟨rfl, rfl⟩ (fun u3 hw => ?_)
    refine g_iald K 1 0 rfl rfl hw.1 dX9_reaches_29 ?_
    replace hw := hw.2
    refine g_icmp_lt (tgt := 37) K dX9_reaches_30 (by decide) (fun hc => ?_) (fun hc => ?_)
    · replace hw := hw.1 hc
      refine g_iconst (v := 0) K dX9_reaches_37 rfl ?_
      exact g_zret K E Er false hw rfl rfl rfl (Nat.le_refl _) (Nat.le_refl _) dX9_reaches_38
    · replace hw := hw.2 hc
      refine g_iconst (v := 1) K dX9_reaches_33 rfl ?_
      refine g_goto (tgt := 38) K dX9_reaches_34 (by decide) ?_
      exact g_zret K E Er true hw rfl rfl rfl (Nat.le_refl _) (Nat.le_refl _) dX9_reaches_38

def wp_X9_suits (mg : XRow) (p0 : Int32) (p1 : Int32) (post : Bool → Prop) : Prop := wp_X9_reaches mg p0 p1 (fun u1 : Bool => (u1 = true → (wp_X9_contractAt p1 2 (fun u2 : Int32 => vp_in u2 672 ∧ (wp_X9_kilosOf mg p0 (fun u3 : Int32 => ((mg (u2).toNatClampNeg) < u3 → (post false)) ∧ (¬ (mg (u2).toNatClampNeg) < u3 → (post true))))))) ∧ (u1 = false → (post false)))
theorem in_X9_suits_X9 : ∀ w ∈ u_ws RX9 TX9 22, w ∈ wsX9_suits := by decide +kernel
set_option maxRecDepth 100000 in
set_option maxHeartbeats 4000000 in
theorem c_X9_suits (l : Launch) (D : va_G) (cy : Nat → ClassId) (sd : xSd) (A : Nat → Nat) (mg : XRow) (mkept : XRow) (mspare : XRow) (mtrial : XRow) (mpast : XRow) (mreport : XRow) (mpart : XRow) (mcome : XRow) (morder : XRow) (mtext : XRow) (mtold : XRow) (mahead : XRow) (mhasKept : Int32) (mpasts : Int32) (mreports : Int32) (mthrown : Int32) (mordering : Int32) (mdetail : Int32) (mlength : Int32) (mspot : Int32) (mnumber : Int32) (mtolds : Int32) (p0 : Int32) (p1 : Int32) {post : Bool → Prop} (hw : wp_X9_suits mg p0 p1 post) : Ctr l D (xTys cy) sd yX9_suits wsX9_suits ({ frames := 3, cells := 0, slots := 0, locals := 65 } : Room) [.ref (A 0), .int p0, .int p1] (fun u : Bool => some (.int (bI u))) [((A 0), .inr (10, [.ref (A 1), .ref (A 2), .ref (A 3), .ref (A 4), .int mhasKept, .ref (A 5), .int mpasts, .ref (A 6), .int mreports, .int mthrown, .ref (A 7), .ref (A 8), .ref (A 9), .int mordering, .int mdetail, .ref (A 10), .int mlength, .int mspot, .int mnumber, .ref (A 11), .int mtolds, .ref (A 12)])), ((A 1), .inl (cy 0, 672, .inl mg)), ((A 2), .inl (cy 0, 672, .inl mkept)), ((A 3), .inl (cy 0, 672, .inl mspare)), ((A 4), .inl (cy 0, 672, .inl mtrial)), ((A 5), .inl (cy 0, 5376, .inl mpast)), ((A 6), .inl (cy 0, 6, .inl mreport)), ((A 7), .inl (cy 0, 5, .inl mpart)), ((A 8), .inl (cy 0, 5, .inl mcome)), ((A 9), .inl (cy 0, 60, .inl morder)), ((A 10), .inl (cy 0, 80, .inl mtext)), ((A 11), .inl (cy 0, 200, .inl mtold)), ((A 12), .inl (cy 0, 672, .inl mahead))] (fun _ => [((A 0), .inr (10, [.ref (A 1), .ref (A 2), .ref (A 3), .ref (A 4), .int mhasKept, .ref (A 5), .int mpasts, .ref (A 6), .int mreports, .int mthrown, .ref (A 7), .ref (A 8), .ref (A 9), .int mordering, .int mdetail, .ref (A 10), .int mlength, .int mspot, .int mnumber, .ref (A 11), .int mtolds, .ref (A 12)])), ((A 1), .inl (cy 0, 672, .inl mg)), ((A 2), .inl (cy 0, 672, .inl mkept)), ((A 3), .inl (cy 0, 672, .inl mspare)), ((A 4), .inl (cy 0, 672, .inl mtrial)), ((A 5), .inl (cy 0, 5376, .inl mpast)), ((A 6), .inl (cy 0, 6, .inl mreport)), ((A 7), .inl (cy 0, 5, .inl mpart)), ((A 8), .inl (cy 0, 5, .inl mcome)), ((A 9), .inl (cy 0, 60, .inl morder)), ((A 10), .inl (cy 0, 80, .inl mtext)), ((A 11), .inl (cy 0, 200, .inl mtold)), ((A 12), .inl (cy 0, 672, .inl mahead))]) post := by
  refine Ctr.of (cc := cX9_suits) (maxL := 3) (ret := (some .boolean)) (lv0 := [(0, .ref (A 0)), (1, .int p0), (2, .int p1)]) (by decide) rfl (Nat.le_of_ble_eq_true rfl) rfl ?_
  intro X El hR Er Enm ED E En K
  have K : Cx X cX9_suits RX9 wsX9_suits (xTys cy) sd := K
  have E : X.2.2.2.2.2.2.2.2.2.2.1 = xMQ X (fun u : Bool => some (.int (bI u))) post (fun _ => [((A 0), .inr (10, [.ref (A 1), .ref (A 2), .ref (A 3), .ref (A 4), .int mhasKept, .ref (A 5), .int mpasts, .ref (A 6), .int mreports, .int mthrown, .ref (A 7), .ref (A 8), .ref (A 9), .int mordering, .int mdetail, .ref (A 10), .int mlength, .int mspot, .int mnumber, .ref (A 11), .int mtolds, .ref (A 12)])), ((A 1), .inl (cy 0, 672, .inl mg)), ((A 2), .inl (cy 0, 672, .inl mkept)), ((A 3), .inl (cy 0, 672, .inl mspare)), ((A 4), .inl (cy 0, 672, .inl mtrial)), ((A 5), .inl (cy 0, 5376, .inl mpast)), ((A 6), .inl (cy 0, 6, .inl mreport)), ((A 7), .inl (cy 0, 5, .inl mpart)), ((A 8), .inl (cy 0, 5, .inl mcome)), ((A 9), .inl (cy 0, 60, .inl morder)), ((A 10), .inl (cy 0, 80, .inl mtext)), ((A 11), .inl (cy 0, 200, .inl mtold)), ((A 12), .inl (cy 0, 672, .inl mahead))]) 0 0 := E
  unfold wp_X9_suits at hw
  refine g_aload_n K 0 dX9_suits_0 rfl ?_
  refine g_iload_n K 1 dX9_suits_1 rfl ?_
  refine g_iload_n K 2 dX9_suits_2 rfl ?_
  refine g_callVr (st' := fun u1 => [.int (bI u1)]) K hR [.int p0, .int p1] [] 0 rfl rfl (c_X9_reaches X.2.1 (gxD X) cy sd A mg mkept mspare mtrial mpast mreport mpart mcome morder mtext mtold mahead mhasKept mpasts mreports mthrown mordering mdetail mlength mspot mnumber mtolds p0 p1 hw) gX9_suits_X9_reaches rfl yok_X9_reaches rfl rfl (by decide) rfl (Nat.le_of_ble_eq_true rfl) dX9_suits_3 [0, 1, 2, 3, 4, 5, 6, 7, 8, 9, 10, 11, 12] rfl (by decide) (fun _ => rfl) ⟨rfl, rfl⟩ (fun u1 hw => ?_)
  refine g_ifb_eq (tgt := 31) K dX9_suits_6 (by decide) (fun hc => ?_) (fun hc => ?_)
  · replace hw := hw.2 hc
    refine g_iconst (v := 0) K dX9_suits_31 rfl ?_
    exact g_zret K E Er false hw rfl rfl rfl (Nat.le_refl _) (Nat.le_refl _) dX9_suits_32
  · replace hw := hw.1 hc
    refine g_aload_n K 0 dX9_suits_9 rfl ?_
    refine g_get K (C := RX9) (T := TX9) (N := 22) 0 0 in_X9_suits_X9 (by decide +kernel) rfl rfl (by decide) rfl dX9_suits_10 ?_
    refine g_iload_n K 2 dX9_suits_13 rfl ?_
    refine g_iconst (v := 2) K dX9_suits_14 rfl ?_
    refine g_callSr (st' := fun u2 => [.int u2, .ref (A 1)]) K hR [.int p1, .int 2] [.ref (A 1)] (c_X9_contractAt X.2.1 (gxD X) cy sd p1 2 hw) gX9_suits_X9_contractAt rfl yok_X9_contractAt rfl (by decide) rfl (Nat.le_of_ble_eq_true rfl) dX9_suits_15 [] rfl (by decide) (fun _ => rfl) ⟨rfl, rfl⟩ (fun u2 hw => ?_)
    refine g_iald K 1 0 rfl rfl hw.1 dX9_suits_18 ?_
    replace hw := hw.2
    refine g_aload_n K 0 dX9_suits_19 rfl ?_
    refine g_iload_n K 1 dX9_suits_20 rfl ?_
    refine g_callVr (st' := fun u3 => [.int u3, .int (mg (u2).toNatClampNeg)]) K hR [.int p0] [.int (mg (u2).toNatClampNeg)] 0 rfl rfl (c_X9_kilosOf X.2.1 (gxD X) cy sd A mg mkept mspare mtrial mpast mreport mpart mcome morder mtext mtold mahead mhasKept mpasts mreports mthrown mordering mdetail mlength mspot mnumber mtolds p0 hw) gX9_suits_X9_kilosOf rfl yok_X9_kilosOf rfl rfl (by decide) rfl (Nat.le_of_ble_eq_true rfl) dX9_suits_21 [0, 1, 2, 3, 4, 5, 6, 7, 8, 9, 10, 11, 12] rfl (by decide) (fun _ => rfl) ⟨rfl, rfl⟩ (fun u3 hw => ?_)
    refine g_icmp_lt (tgt := 31) K dX9_suits_24 (by decide) (fun hc => ?_) (fun hc => ?_)
    · replace hw := hw.1 hc
      refine g_iconst (v := 0) K dX9_suits_31 rfl ?_
      exact g_zret K E Er false hw rfl rfl rfl (Nat.le_refl _) (Nat.le_refl _) dX9_suits_32
    · replace hw := hw.2 hc
      refine g_iconst (v := 1) K dX9_suits_27 rfl ?_
      refine g_goto (tgt := 32) K dX9_suits_28 (by decide) ?_
      exact g_zret K E Er true hw rfl rfl rfl (Nat.le_refl _) (Nat.le_refl _) dX9_suits_32

def wp_X9_isBetter (mg : XRow) (p0 : Int32) (p1 : Int32) (post : Bool → Prop) : Prop := wp_X9_contractAt p0 3 (fun u1 : Int32 => vp_in u1 672 ∧ (wp_X9_contractAt p1 3 (fun u2 : Int32 => vp_in u2 672 ∧ (((mg (u1).toNatClampNeg) = (mg (u2).toNatClampNeg) → (wp_X9_contractAt p0 1 (fun u3 : Int32 => vp_in u3 672 ∧ (wp_X9_contractAt p1 1 (fun u4 : Int32 => vp_in u4 672 ∧ (((mg (u3).toNatClampNeg) ≤ (mg (u4).toNatClampNeg) → (post false)) ∧ (¬ (mg (u3).toNatClampNeg) ≤ (mg (u4).toNatClampNeg) → (post true)))))))) ∧ (¬ (mg (u1).toNatClampNeg) = (mg (u2).toNatClampNeg) → (wp_X9_contractAt p0 3 (fun u5 : Int32 => vp_in u5 672 ∧ (wp_X9_contractAt p1 3 (fun u6 : Int32 => vp_in u6 672 ∧ (((mg (u5).toNatClampNeg) ≤ (mg (u6).toNatClampNeg) → (post false)) ∧ (¬ (mg (u5).toNatClampNeg) ≤ (mg (u6).toNatClampNeg) → (post true))))))))))))
theorem in_X9_isBetter_X9 : ∀ w ∈ u_ws RX9 TX9 22, w ∈ wsX9_isBetter := by decide +kernel
set_option maxRecDepth 100000 in
set_option maxHeartbeats 4000000 in
theorem c_X9_isBetter (l : Launch) (D : va_G) (cy : Nat → ClassId) (sd : xSd) (A : Nat → Nat) (mg : XRow) (mkept : XRow) (mspare : XRow) (mtrial : XRow) (mpast : XRow) (mreport : XRow) (mpart : XRow) (mcome : XRow) (morder : XRow) (mtext : XRow) (mtold : XRow) (mahead : XRow) (mhasKept : Int32) (mpasts : Int32) (mreports : Int32) (mthrown : Int32) (mordering : Int32) (mdetail : Int32) (mlength : Int32) (mspot : Int32) (mnumber : Int32) (mtolds : Int32) (p0 : Int32) (p1 : Int32) {post : Bool → Prop} (hw : wp_X9_isBetter mg p0 p1 post) : Ctr l D (xTys cy) sd yX9_isBetter wsX9_isBetter ({ frames := 1, cells := 0, slots := 0, locals := 21 } : Room) [.ref (A 0), .int p0, .int p1] (fun u : Bool => some (.int (bI u))) [((A 0), .inr (10, [.ref (A 1), .ref (A 2), .ref (A 3), .ref (A 4), .int mhasKept, .ref (A 5), .int mpasts, .ref (A 6), .int mreports, .int mthrown, .ref (A 7), .ref (A 8), .ref (A 9), .int mordering, .int mdetail, .ref (A 10), .int mlength, .int mspot, .int mnumber, .ref (A 11), .int mtolds, .ref (A 12)])), ((A 1), .inl (cy 0, 672, .inl mg)), ((A 2), .inl (cy 0, 672, .inl mkept)), ((A 3), .inl (cy 0, 672, .inl mspare)), ((A 4), .inl (cy 0, 672, .inl mtrial)), ((A 5), .inl (cy 0, 5376, .inl mpast)), ((A 6), .inl (cy 0, 6, .inl mreport)), ((A 7), .inl (cy 0, 5, .inl mpart)), ((A 8), .inl (cy 0, 5, .inl mcome)), ((A 9), .inl (cy 0, 60, .inl morder)), ((A 10), .inl (cy 0, 80, .inl mtext)), ((A 11), .inl (cy 0, 200, .inl mtold)), ((A 12), .inl (cy 0, 672, .inl mahead))] (fun _ => [((A 0), .inr (10, [.ref (A 1), .ref (A 2), .ref (A 3), .ref (A 4), .int mhasKept, .ref (A 5), .int mpasts, .ref (A 6), .int mreports, .int mthrown, .ref (A 7), .ref (A 8), .ref (A 9), .int mordering, .int mdetail, .ref (A 10), .int mlength, .int mspot, .int mnumber, .ref (A 11), .int mtolds, .ref (A 12)])), ((A 1), .inl (cy 0, 672, .inl mg)), ((A 2), .inl (cy 0, 672, .inl mkept)), ((A 3), .inl (cy 0, 672, .inl mspare)), ((A 4), .inl (cy 0, 672, .inl mtrial)), ((A 5), .inl (cy 0, 5376, .inl mpast)), ((A 6), .inl (cy 0, 6, .inl mreport)), ((A 7), .inl (cy 0, 5, .inl mpart)), ((A 8), .inl (cy 0, 5, .inl mcome)), ((A 9), .inl (cy 0, 60, .inl morder)), ((A 10), .inl (cy 0, 80, .inl mtext)), ((A 11), .inl (cy 0, 200, .inl mtold)), ((A 12), .inl (cy 0, 672, .inl mahead))]) post := by
  refine Ctr.of (cc := cX9_isBetter) (maxL := 3) (ret := (some .boolean)) (lv0 := [(0, .ref (A 0)), (1, .int p0), (2, .int p1)]) (by decide) rfl (Nat.le_of_ble_eq_true rfl) rfl ?_
  intro X El hR Er Enm ED E En K
  have K : Cx X cX9_isBetter RX9 wsX9_isBetter (xTys cy) sd := K
  have E : X.2.2.2.2.2.2.2.2.2.2.1 = xMQ X (fun u : Bool => some (.int (bI u))) post (fun _ => [((A 0), .inr (10, [.ref (A 1), .ref (A 2), .ref (A 3), .ref (A 4), .int mhasKept, .ref (A 5), .int mpasts, .ref (A 6), .int mreports, .int mthrown, .ref (A 7), .ref (A 8), .ref (A 9), .int mordering, .int mdetail, .ref (A 10), .int mlength, .int mspot, .int mnumber, .ref (A 11), .int mtolds, .ref (A 12)])), ((A 1), .inl (cy 0, 672, .inl mg)), ((A 2), .inl (cy 0, 672, .inl mkept)), ((A 3), .inl (cy 0, 672, .inl mspare)), ((A 4), .inl (cy 0, 672, .inl mtrial)), ((A 5), .inl (cy 0, 5376, .inl mpast)), ((A 6), .inl (cy 0, 6, .inl mreport)), ((A 7), .inl (cy 0, 5, .inl mpart)), ((A 8), .inl (cy 0, 5, .inl mcome)), ((A 9), .inl (cy 0, 60, .inl morder)), ((A 10), .inl (cy 0, 80, .inl mtext)), ((A 11), .inl (cy 0, 200, .inl mtold)), ((A 12), .inl (cy 0, 672, .inl mahead))]) 0 0 := E
  unfold wp_X9_isBetter at hw
  refine g_aload_n K 0 dX9_isBetter_0 rfl ?_
  refine g_get K (C := RX9) (T := TX9) (N := 22) 0 0 in_X9_isBetter_X9 (by decide +kernel) rfl rfl (by decide) rfl dX9_isBetter_1 ?_
  refine g_iload_n K 1 dX9_isBetter_4 rfl ?_
  refine g_iconst (v := 3) K dX9_isBetter_5 rfl ?_
  refine g_callSr (st' := fun u1 => [.int u1, .ref (A 1)]) K hR [.int p0, .int 3] [.ref (A 1)] (c_X9_contractAt X.2.1 (gxD X) cy sd p0 3 hw) gX9_isBetter_X9_contractAt rfl yok_X9_contractAt rfl (by decide) rfl (Nat.le_of_ble_eq_true rfl) dX9_isBetter_6 [] rfl (by decide) (fun _ => rfl) ⟨rfl, rfl⟩ (fun u1 hw => ?_)
  refine g_iald K 1 0 rfl rfl hw.1 dX9_isBetter_9 ?_
  replace hw := hw.2
  refine g_aload_n K 0 dX9_isBetter_10 rfl ?_
  refine g_get K (C := RX9) (T := TX9) (N := 22) 0 0 in_X9_isBetter_X9 (by decide +kernel) rfl rfl (by decide) rfl dX9_isBetter_11 ?_
  refine g_iload_n K 2 dX9_isBetter_14 rfl ?_
  refine g_iconst (v := 3) K dX9_isBetter_15 rfl ?_
  refine g_callSr (st' := fun u2 => [.int u2, .ref (A 1), .int (mg (u1).toNatClampNeg)]) K hR [.int p1, .int 3] [.ref (A 1), .int (mg (u1).toNatClampNeg)] (c_X9_contractAt X.2.1 (gxD X) cy sd p1 3 hw) gX9_isBetter_X9_contractAt rfl yok_X9_contractAt rfl (by decide) rfl (Nat.le_of_ble_eq_true rfl) dX9_isBetter_16 [] rfl (by decide) (fun _ => rfl) ⟨rfl, rfl⟩ (fun u2 hw => ?_)
  refine g_iald K 1 0 rfl rfl hw.1 dX9_isBetter_19 ?_
  replace hw := hw.2
  refine g_icmp_eq (tgt := 54) K dX9_isBetter_20 (by decide) (fun hc => ?_) (fun hc => ?_)
  · replace hw := hw.1 hc
    refine g_aload_n K 0 dX9_isBetter_54 rfl ?_
    refine g_get K (C := RX9) (T := TX9) (N := 22) 0 0 in_X9_isBetter_X9 (by decide +kernel) rfl rfl (by decide) rfl dX9_isBetter_55 ?_
    refine g_iload_n K 1 dX9_isBetter_58 rfl ?_
    refine g_iconst (v := 1) K dX9_isBetter_59 rfl ?_
    refine g_callSr (st' := fun u3 => [.int u3, .ref (A 1)]) K hR [.int p0, .int 1] [.ref (A 1)] (c_X9_contractAt X.2.1 (gxD X) cy sd p0 1 hw) gX9_isBetter_X9_contractAt rfl yok_X9_contractAt rfl (by decide) rfl (Nat.le_of_ble_eq_true rfl) dX9_isBetter_60 [] rfl (by decide) (fun _ => rfl) ⟨rfl, rfl⟩ (fun u3 hw => ?_)
    refine g_iald K 1 0 rfl rfl hw.1 dX9_isBetter_63 ?_
    replace hw := hw.2
    refine g_aload_n K 0 dX9_isBetter_64 rfl ?_
    refine g_get K (C := RX9) (T := TX9) (N := 22) 0 0 in_X9_isBetter_X9 (by decide +kernel) rfl rfl (by decide) rfl dX9_isBetter_65 ?_
    refine g_iload_n K 2 dX9_isBetter_68 rfl ?_
    refine g_iconst (v := 1) K dX9_isBetter_69 rfl ?_
    refine g_callSr (st' := fun u4 => [.int u4, .ref (A 1), .int (mg (u3).toNatClampNeg)]) K hR [.int p1, .int 1] [.ref (A 1), .int (mg (u3).toNatClampNeg)] (c_X9_contractAt X.2.1 (gxD X) cy sd p1 1 hw) gX9_isBetter_X9_contractAt rfl yok_X9_contractAt rfl (by decide) rfl (Nat.le_of_ble_eq_true rfl) dX9_isBetter_70 [] rfl (by decide) (fun _ => rfl) ⟨rfl, rfl⟩ (fun u4 hw => ?_)
    refine g_iald K 1 0 rfl rfl hw.1 dX9_isBetter_73 ?_
    replace hw := hw.2
    refine g_icmp_le (tgt := 81) K dX9_isBetter_74 (by decide) (fun hc => ?_) (fun hc => ?_)
    · replace hw := hw.1 hc
      refine g_iconst (v := 0) K dX9_isBetter_81 rfl ?_
      exact g_zret K E Er false hw rfl rfl rfl (Nat.le_refl _) (Nat.le_refl _) dX9_isBetter_82
    · replace hw := hw.2 hc
      refine g_iconst (v := 1) K dX9_isBetter_77 rfl ?_
      refine g_goto (tgt := 82) K dX9_isBetter_78 (by decide) ?_
      exact g_zret K E Er true hw rfl rfl rfl (Nat.le_refl _) (Nat.le_refl _) dX9_isBetter_82
  · replace hw := hw.2 hc
    refine g_aload_n K 0 dX9_isBetter_23 rfl ?_
    refine g_get K (C := RX9) (T := TX9) (N := 22) 0 0 in_X9_isBetter_X9 (by decide +kernel) rfl rfl (by decide) rfl dX9_isBetter_24 ?_
    refine g_iload_n K 1 dX9_isBetter_27 rfl ?_
    refine g_iconst (v := 3) K dX9_isBetter_28 rfl ?_
    refine g_callSr (st' := fun u5 => [.int u5, .ref (A 1)]) K hR [.int p0, .int 3] [.ref (A 1)] (c_X9_contractAt X.2.1 (gxD X) cy sd p0 3 hw) gX9_isBetter_X9_contractAt rfl yok_X9_contractAt rfl (by decide) rfl (Nat.le_of_ble_eq_true rfl) dX9_isBetter_29 [] rfl (by decide) (fun _ => rfl) ⟨rfl, rfl⟩ (fun u5 hw => ?_)
    refine g_iald K 1 0 rfl rfl hw.1 dX9_isBetter_32 ?_
    replace hw := hw.2
    refine g_aload_n K 0 dX9_isBetter_33 rfl ?_
    refine g_get K (C := RX9) (T := TX9) (N := 22) 0 0 in_X9_isBetter_X9 (by decide +kernel) rfl rfl (by decide) rfl dX9_isBetter_34 ?_
    refine g_iload_n K 2 dX9_isBetter_37 rfl ?_
    refine g_iconst (v := 3) K dX9_isBetter_38 rfl ?_
    refine g_callSr (st' := fun u6 => [.int u6, .ref (A 1), .int (mg (u5).toNatClampNeg)]) K hR [.int p1, .int 3] [.ref (A 1), .int (mg (u5).toNatClampNeg)] (c_X9_contractAt X.2.1 (gxD X) cy sd p1 3 hw) gX9_isBetter_X9_contractAt rfl yok_X9_contractAt rfl (by decide) rfl (Nat.le_of_ble_eq_true rfl) dX9_isBetter_39 [] rfl (by decide) (fun _ => rfl) ⟨rfl, rfl⟩ (fun u6 hw => ?_)
    refine g_iald K 1 0 rfl rfl hw.1 dX9_isBetter_42 ?_
    replace hw := hw.2
    refine g_icmp_le (tgt := 50) K dX9_isBetter_43 (by decide) (fun hc => ?_) (fun hc => ?_)
    · replace hw := hw.1 hc
      refine g_iconst (v := 0) K dX9_isBetter_50 rfl ?_
      refine g_goto (tgt := 82) K dX9_isBetter_51 (by decide) ?_
      exact g_zret K E Er false hw rfl rfl rfl (Nat.le_refl _) (Nat.le_refl _) dX9_isBetter_82
    · replace hw := hw.2 hc
      refine g_iconst (v := 1) K dX9_isBetter_46 rfl ?_
      refine g_goto (tgt := 82) K dX9_isBetter_47 (by decide) ?_
      exact g_zret K E Er true hw rfl rfl rfl (Nat.le_refl _) (Nat.le_refl _) dX9_isBetter_82

def wp_X9_bestFor_L4 (mg : XRow) (p0 : Int32) (k4_48 : Int32 → Int32 → Prop) : Nat → Int32 → Int32 → Prop
  | 0, _, _ => False
  | fu + 1, v1, v2 => vp_in 3 672 ∧ (((mg ((3 : Int32).toNatClampNeg)) ≤ v1 → (k4_48 v1 v2)) ∧ (¬ (mg ((3 : Int32).toNatClampNeg)) ≤ v1 → (wp_X9_suits mg p0 v1 (fun u3 : Bool => (u3 = true → ((v2 < 0 → (∀ x5 : Int32, x5 = v1 + 1 → (wp_X9_bestFor_L4 mg p0 k4_48 fu x5 v1))) ∧ (¬ v2 < 0 → (wp_X9_isBetter mg v1 v2 (fun u6 : Bool => (u6 = true → (∀ x8 : Int32, x8 = v1 + 1 → (wp_X9_bestFor_L4 mg p0 k4_48 fu x8 v1))) ∧ (u6 = false → (∀ x7 : Int32, x7 = v1 + 1 → (wp_X9_bestFor_L4 mg p0 k4_48 fu x7 v2)))))))) ∧ (u3 = false → (∀ x4 : Int32, x4 = v1 + 1 → (wp_X9_bestFor_L4 mg p0 k4_48 fu x4 v2)))))))
def wp_X9_bestFor (mg : XRow) (p0 : Int32) (post : Int32 → Prop) : Prop := ∃ fl, wp_X9_bestFor_L4 mg p0 (fun (v9 : Int32) (v10 : Int32) => post v10) fl 0 (-1)
theorem in_X9_bestFor_X9 : ∀ w ∈ u_ws RX9 TX9 22, w ∈ wsX9_bestFor := by decide +kernel
set_option maxRecDepth 100000 in
set_option maxHeartbeats 4000000 in
theorem c_X9_bestFor (l : Launch) (D : va_G) (cy : Nat → ClassId) (sd : xSd) (A : Nat → Nat) (mg : XRow) (mkept : XRow) (mspare : XRow) (mtrial : XRow) (mpast : XRow) (mreport : XRow) (mpart : XRow) (mcome : XRow) (morder : XRow) (mtext : XRow) (mtold : XRow) (mahead : XRow) (mhasKept : Int32) (mpasts : Int32) (mreports : Int32) (mthrown : Int32) (mordering : Int32) (mdetail : Int32) (mlength : Int32) (mspot : Int32) (mnumber : Int32) (mtolds : Int32) (p0 : Int32) {post : Int32 → Prop} (hw : wp_X9_bestFor mg p0 post) : Ctr l D (xTys cy) sd yX9_bestFor wsX9_bestFor ({ frames := 4, cells := 0, slots := 0, locals := 87 } : Room) [.ref (A 0), .int p0] (fun u : Int32 => some (.int u)) [((A 0), .inr (10, [.ref (A 1), .ref (A 2), .ref (A 3), .ref (A 4), .int mhasKept, .ref (A 5), .int mpasts, .ref (A 6), .int mreports, .int mthrown, .ref (A 7), .ref (A 8), .ref (A 9), .int mordering, .int mdetail, .ref (A 10), .int mlength, .int mspot, .int mnumber, .ref (A 11), .int mtolds, .ref (A 12)])), ((A 1), .inl (cy 0, 672, .inl mg)), ((A 2), .inl (cy 0, 672, .inl mkept)), ((A 3), .inl (cy 0, 672, .inl mspare)), ((A 4), .inl (cy 0, 672, .inl mtrial)), ((A 5), .inl (cy 0, 5376, .inl mpast)), ((A 6), .inl (cy 0, 6, .inl mreport)), ((A 7), .inl (cy 0, 5, .inl mpart)), ((A 8), .inl (cy 0, 5, .inl mcome)), ((A 9), .inl (cy 0, 60, .inl morder)), ((A 10), .inl (cy 0, 80, .inl mtext)), ((A 11), .inl (cy 0, 200, .inl mtold)), ((A 12), .inl (cy 0, 672, .inl mahead))] (fun _ => [((A 0), .inr (10, [.ref (A 1), .ref (A 2), .ref (A 3), .ref (A 4), .int mhasKept, .ref (A 5), .int mpasts, .ref (A 6), .int mreports, .int mthrown, .ref (A 7), .ref (A 8), .ref (A 9), .int mordering, .int mdetail, .ref (A 10), .int mlength, .int mspot, .int mnumber, .ref (A 11), .int mtolds, .ref (A 12)])), ((A 1), .inl (cy 0, 672, .inl mg)), ((A 2), .inl (cy 0, 672, .inl mkept)), ((A 3), .inl (cy 0, 672, .inl mspare)), ((A 4), .inl (cy 0, 672, .inl mtrial)), ((A 5), .inl (cy 0, 5376, .inl mpast)), ((A 6), .inl (cy 0, 6, .inl mreport)), ((A 7), .inl (cy 0, 5, .inl mpart)), ((A 8), .inl (cy 0, 5, .inl mcome)), ((A 9), .inl (cy 0, 60, .inl morder)), ((A 10), .inl (cy 0, 80, .inl mtext)), ((A 11), .inl (cy 0, 200, .inl mtold)), ((A 12), .inl (cy 0, 672, .inl mahead))]) post := by
  refine Ctr.of (cc := cX9_bestFor) (maxL := 4) (ret := (some .int)) (lv0 := [(0, .ref (A 0)), (1, .int p0)]) (by decide) rfl (Nat.le_of_ble_eq_true rfl) rfl ?_
  intro X El hR Er Enm ED E En K
  have K : Cx X cX9_bestFor RX9 wsX9_bestFor (xTys cy) sd := K
  have E : X.2.2.2.2.2.2.2.2.2.2.1 = xMQ X (fun u : Int32 => some (.int u)) post (fun _ => [((A 0), .inr (10, [.ref (A 1), .ref (A 2), .ref (A 3), .ref (A 4), .int mhasKept, .ref (A 5), .int mpasts, .ref (A 6), .int mreports, .int mthrown, .ref (A 7), .ref (A 8), .ref (A 9), .int mordering, .int mdetail, .ref (A 10), .int mlength, .int mspot, .int mnumber, .ref (A 11), .int mtolds, .ref (A 12)])), ((A 1), .inl (cy 0, 672, .inl mg)), ((A 2), .inl (cy 0, 672, .inl mkept)), ((A 3), .inl (cy 0, 672, .inl mspare)), ((A 4), .inl (cy 0, 672, .inl mtrial)), ((A 5), .inl (cy 0, 5376, .inl mpast)), ((A 6), .inl (cy 0, 6, .inl mreport)), ((A 7), .inl (cy 0, 5, .inl mpart)), ((A 8), .inl (cy 0, 5, .inl mcome)), ((A 9), .inl (cy 0, 60, .inl morder)), ((A 10), .inl (cy 0, 80, .inl mtext)), ((A 11), .inl (cy 0, 200, .inl mtold)), ((A 12), .inl (cy 0, 672, .inl mahead))]) 0 0 := E
  unfold wp_X9_bestFor at hw
  refine g_iconst (v := (-1)) K dX9_bestFor_0 rfl ?_
  refine g_istore_n (lv' := [(2, .int (-1)), (0, .ref (A 0)), (1, .int p0)]) K dX9_bestFor_1 rfl (by rw [En]; decide) rfl ?_
  refine g_iconst (v := 0) K dX9_bestFor_2 rfl ?_
  refine g_istore_n (lv' := [(3, .int 0), (2, .int (-1)), (0, .ref (A 0)), (1, .int p0)]) K dX9_bestFor_3 rfl (by rw [En]; decide) rfl ?_
  obtain ⟨fl, hw⟩ := hw
  have key : ∀ (k4_48 : Int32 → Int32 → Prop), (∀ (v1 : Int32) (v2 : Int32), k4_48 v1 v2 → Gx X 0 0 [((A 0), .inr (10, [.ref (A 1), .ref (A 2), .ref (A 3), .ref (A 4), .int mhasKept, .ref (A 5), .int mpasts, .ref (A 6), .int mreports, .int mthrown, .ref (A 7), .ref (A 8), .ref (A 9), .int mordering, .int mdetail, .ref (A 10), .int mlength, .int mspot, .int mnumber, .ref (A 11), .int mtolds, .ref (A 12)])), ((A 1), .inl (cy 0, 672, .inl mg)), ((A 2), .inl (cy 0, 672, .inl mkept)), ((A 3), .inl (cy 0, 672, .inl mspare)), ((A 4), .inl (cy 0, 672, .inl mtrial)), ((A 5), .inl (cy 0, 5376, .inl mpast)), ((A 6), .inl (cy 0, 6, .inl mreport)), ((A 7), .inl (cy 0, 5, .inl mpart)), ((A 8), .inl (cy 0, 5, .inl mcome)), ((A 9), .inl (cy 0, 60, .inl morder)), ((A 10), .inl (cy 0, 80, .inl mtext)), ((A 11), .inl (cy 0, 200, .inl mtold)), ((A 12), .inl (cy 0, 672, .inl mahead))] [(3, .int v1), (2, .int v2), (0, .ref (A 0)), (1, .int p0)] 48 []) → ∀ (n : Nat) (v1 : Int32) (v2 : Int32), wp_X9_bestFor_L4 mg p0 k4_48 n v1 v2 → Gx X 0 0 [((A 0), .inr (10, [.ref (A 1), .ref (A 2), .ref (A 3), .ref (A 4), .int mhasKept, .ref (A 5), .int mpasts, .ref (A 6), .int mreports, .int mthrown, .ref (A 7), .ref (A 8), .ref (A 9), .int mordering, .int mdetail, .ref (A 10), .int mlength, .int mspot, .int mnumber, .ref (A 11), .int mtolds, .ref (A 12)])), ((A 1), .inl (cy 0, 672, .inl mg)), ((A 2), .inl (cy 0, 672, .inl mkept)), ((A 3), .inl (cy 0, 672, .inl mspare)), ((A 4), .inl (cy 0, 672, .inl mtrial)), ((A 5), .inl (cy 0, 5376, .inl mpast)), ((A 6), .inl (cy 0, 6, .inl mreport)), ((A 7), .inl (cy 0, 5, .inl mpart)), ((A 8), .inl (cy 0, 5, .inl mcome)), ((A 9), .inl (cy 0, 60, .inl morder)), ((A 10), .inl (cy 0, 80, .inl mtext)), ((A 11), .inl (cy 0, 200, .inl mtold)), ((A 12), .inl (cy 0, 672, .inl mahead))] [(3, .int v1), (2, .int v2), (0, .ref (A 0)), (1, .int p0)] 4 [] := by
    intro k4_48 hx48 n
    induction n with
    | zero => intro v1 v2 hw; exact hw.elim
    | succ n ih =>
      intro v1 v2 hw
      refine g_iload_n K 0 dX9_bestFor_4 rfl ?_
      refine g_aload_n K 2 dX9_bestFor_5 rfl ?_
      refine g_get K (C := RX9) (T := TX9) (N := 22) 0 0 in_X9_bestFor_X9 (by decide +kernel) rfl rfl (by decide) rfl dX9_bestFor_6 ?_
      refine g_iconst (v := 3) K dX9_bestFor_9 rfl ?_
      refine g_iald K 1 0 rfl rfl hw.1 dX9_bestFor_10 ?_
      replace hw := hw.2
      refine g_icmp_ge (tgt := 48) K dX9_bestFor_11 (by decide) (fun hc => ?_) (fun hc => ?_)
      · replace hw := hw.1 hc
        exact hx48 _ _ hw
      · replace hw := hw.2 hc
        refine g_aload_n K 2 dX9_bestFor_14 rfl ?_
        refine g_iload_n K 3 dX9_bestFor_15 rfl ?_
        refine g_iload_n K 0 dX9_bestFor_16 rfl ?_
        refine g_callVr (st' := fun u3 => [.int (bI u3)]) K hR [.int p0, .int v1] [] 0 rfl rfl (c_X9_suits X.2.1 (gxD X) cy sd A mg mkept mspare mtrial mpast mreport mpart mcome morder mtext mtold mahead mhasKept mpasts mreports mthrown mordering mdetail mlength mspot mnumber mtolds p0 v1 hw) gX9_bestFor_X9_suits rfl yok_X9_suits rfl rfl (by decide) rfl (Nat.le_of_ble_eq_true rfl) dX9_bestFor_17 [0, 1, 2, 3, 4, 5, 6, 7, 8, 9, 10, 11, 12] rfl (by decide) (fun _ => rfl) ⟨rfl, rfl⟩ (fun u3 hw => ?_)
        refine g_ifb_eq (tgt := 40) K dX9_bestFor_20 (by decide) (fun hc => ?_) (fun hc => ?_)
        · replace hw := hw.2 hc
          refine g_iload_n K 1 dX9_bestFor_40 rfl ?_
          refine g_istore_n (lv' := [(2, .int v2), (3, .int v1), (0, .ref (A 0)), (1, .int p0)]) K dX9_bestFor_41 rfl (by rw [En]; decide) rfl ?_
          obtain ⟨x4, ex4⟩ : ∃ z : Int32, z = v1 + 1 := ⟨_, rfl⟩
          replace hw := hw x4 ex4
          refine g_iinc (v := x4) (lv' := [(3, .int x4), (2, .int v2), (0, .ref (A 0)), (1, .int p0)]) K 1 dX9_bestFor_42 rfl (by rw [ex4]; rfl) (by rw [En]; decide) rfl ?_
          refine g_goto (tgt := 4) K dX9_bestFor_45 (by decide) ?_
          exact ih _ _ hw
        · replace hw := hw.1 hc
          refine g_iload_n K 1 dX9_bestFor_23 rfl ?_
          refine g_if_lt (tgt := 36) K dX9_bestFor_24 (by decide) (fun hc => ?_) (fun hc => ?_)
          · replace hw := hw.1 hc
            refine g_iload_n K 0 dX9_bestFor_36 rfl ?_
            refine g_goto (tgt := 41) K dX9_bestFor_37 (by decide) ?_
            refine g_istore_n (lv' := [(2, .int v1), (3, .int v1), (0, .ref (A 0)), (1, .int p0)]) K dX9_bestFor_41 rfl (by rw [En]; decide) rfl ?_
            obtain ⟨x5, ex5⟩ : ∃ z : Int32, z = v1 + 1 := ⟨_, rfl⟩
            replace hw := hw x5 ex5
            refine g_iinc (v := x5) (lv' := [(3, .int x5), (2, .int v1), (0, .ref (A 0)), (1, .int p0)]) K 1 dX9_bestFor_42 rfl (by rw [ex5]; rfl) (by rw [En]; decide) rfl ?_
            refine g_goto (tgt := 4) K dX9_bestFor_45 (by decide) ?_
            exact ih _ _ hw
          · replace hw := hw.2 hc
            refine g_aload_n K 2 dX9_bestFor_27 rfl ?_
            refine g_iload_n K 0 dX9_bestFor_28 rfl ?_
            refine g_iload_n K 1 dX9_bestFor_29 rfl ?_
            refine g_callVr (st' := fun u6 => [.int (bI u6)]) K hR [.int v1, .int v2] [] 0 rfl rfl (c_X9_isBetter X.2.1 (gxD X) cy sd A mg mkept mspare mtrial mpast mreport mpart mcome morder mtext mtold mahead mhasKept mpasts mreports mthrown mordering mdetail mlength mspot mnumber mtolds v1 v2 hw) gX9_bestFor_X9_isBetter rfl yok_X9_isBetter rfl rfl (by decide) rfl (Nat.le_of_ble_eq_true rfl) dX9_bestFor_30 [0, 1, 2, 3, 4, 5, 6, 7, 8, 9, 10, 11, 12] rfl (by decide) (fun _ => rfl) ⟨rfl, rfl⟩ (fun u6 hw => ?_)
            refine g_ifb_eq (tgt := 40) K dX9_bestFor_33 (by decide) (fun hc => ?_) (fun hc => ?_)
            · replace hw := hw.2 hc
              refine g_iload_n K 1 dX9_bestFor_40 rfl ?_
              refine g_istore_n (lv' := [(2, .int v2), (3, .int v1), (0, .ref (A 0)), (1, .int p0)]) K dX9_bestFor_41 rfl (by rw [En]; decide) rfl ?_
              obtain ⟨x7, ex7⟩ : ∃ z : Int32, z = v1 + 1 := ⟨_, rfl⟩
              replace hw := hw x7 ex7
              refine g_iinc (v := x7) (lv' := [(3, .int x7), (2, .int v2), (0, .ref (A 0)), (1, .int p0)]) K 1 dX9_bestFor_42 rfl (by rw [ex7]; rfl) (by rw [En]; decide) rfl ?_
              refine g_goto (tgt := 4) K dX9_bestFor_45 (by decide) ?_
              exact ih _ _ hw
            · replace hw := hw.1 hc
              refine g_iload_n K 0 dX9_bestFor_36 rfl ?_
              refine g_goto (tgt := 41) K dX9_bestFor_37 (by decide) ?_
              refine g_istore_n (lv' := [(2, .int v1), (3, .int v1), (0, .ref (A 0)), (1, .int p0)]) K dX9_bestFor_41 rfl (by rw [En]; decide) rfl ?_
              obtain ⟨x8, ex8⟩ : ∃ z : Int32, z = v1 + 1 := ⟨_, rfl⟩
              replace hw := hw x8 ex8
              refine g_iinc (v := x8) (lv' := [(3, .int x8), (2, .int v1), (0, .ref (A 0)), (1, .int p0)]) K 1 dX9_bestFor_42 rfl (by rw [ex8]; rfl) (by rw [En]; decide) rfl ?_
              refine g_goto (tgt := 4) K dX9_bestFor_45 (by decide) ?_
              exact ih _ _ hw
  refine key _ (fun v9 v10 hw => ?_) fl _ _ hw
  refine g_iload_n K 1 dX9_bestFor_48 rfl ?_
  exact g_zret K E Er v10 hw rfl rfl rfl (Nat.le_refl _) (Nat.le_refl _) dX9_bestFor_49

def wp_X9_refuses (p0 : Int32) (p1 : Int32) (post : (Int32 × Int32) → Prop) : Prop := post (p0, p1)
theorem in_X9_refuses_X9 : ∀ w ∈ u_ws RX9 TX9 22, w ∈ wsX9_refuses := by decide +kernel
set_option maxRecDepth 100000 in
set_option maxHeartbeats 4000000 in
theorem c_X9_refuses (l : Launch) (D : va_G) (cy : Nat → ClassId) (sd : xSd) (A : Nat → Nat) (mg : XRow) (mkept : XRow) (mspare : XRow) (mtrial : XRow) (mpast : XRow) (mreport : XRow) (mpart : XRow) (mcome : XRow) (morder : XRow) (mtext : XRow) (mtold : XRow) (mahead : XRow) (mhasKept : Int32) (mpasts : Int32) (mreports : Int32) (mthrown : Int32) (mordering : Int32) (mdetail : Int32) (mlength : Int32) (mspot : Int32) (mnumber : Int32) (mtolds : Int32) (p0 : Int32) (p1 : Int32) {post : (Int32 × Int32) → Prop} (hw : wp_X9_refuses p0 p1 post) : Ctr l D (xTys cy) sd yX9_refuses wsX9_refuses ({ frames := 0, cells := 0, slots := 0, locals := 0 } : Room) [.ref (A 0), .int p0, .int p1] (fun u : Int32 × Int32 => some (.int u.1)) [((A 0), .inr (10, [.ref (A 1), .ref (A 2), .ref (A 3), .ref (A 4), .int mhasKept, .ref (A 5), .int mpasts, .ref (A 6), .int mreports, .int mthrown, .ref (A 7), .ref (A 8), .ref (A 9), .int mordering, .int mdetail, .ref (A 10), .int mlength, .int mspot, .int mnumber, .ref (A 11), .int mtolds, .ref (A 12)])), ((A 1), .inl (cy 0, 672, .inl mg)), ((A 2), .inl (cy 0, 672, .inl mkept)), ((A 3), .inl (cy 0, 672, .inl mspare)), ((A 4), .inl (cy 0, 672, .inl mtrial)), ((A 5), .inl (cy 0, 5376, .inl mpast)), ((A 6), .inl (cy 0, 6, .inl mreport)), ((A 7), .inl (cy 0, 5, .inl mpart)), ((A 8), .inl (cy 0, 5, .inl mcome)), ((A 9), .inl (cy 0, 60, .inl morder)), ((A 10), .inl (cy 0, 80, .inl mtext)), ((A 11), .inl (cy 0, 200, .inl mtold)), ((A 12), .inl (cy 0, 672, .inl mahead))] (fun u => [((A 0), .inr (10, [.ref (A 1), .ref (A 2), .ref (A 3), .ref (A 4), .int mhasKept, .ref (A 5), .int mpasts, .ref (A 6), .int mreports, .int mthrown, .ref (A 7), .ref (A 8), .ref (A 9), .int mordering, .int u.2, .ref (A 10), .int mlength, .int mspot, .int mnumber, .ref (A 11), .int mtolds, .ref (A 12)])), ((A 1), .inl (cy 0, 672, .inl mg)), ((A 2), .inl (cy 0, 672, .inl mkept)), ((A 3), .inl (cy 0, 672, .inl mspare)), ((A 4), .inl (cy 0, 672, .inl mtrial)), ((A 5), .inl (cy 0, 5376, .inl mpast)), ((A 6), .inl (cy 0, 6, .inl mreport)), ((A 7), .inl (cy 0, 5, .inl mpart)), ((A 8), .inl (cy 0, 5, .inl mcome)), ((A 9), .inl (cy 0, 60, .inl morder)), ((A 10), .inl (cy 0, 80, .inl mtext)), ((A 11), .inl (cy 0, 200, .inl mtold)), ((A 12), .inl (cy 0, 672, .inl mahead))]) post := by
  refine Ctr.of (cc := cX9_refuses) (maxL := 3) (ret := (some .int)) (lv0 := [(0, .ref (A 0)), (1, .int p0), (2, .int p1)]) (by decide) rfl (Nat.le_of_ble_eq_true rfl) rfl ?_
  intro X El hR Er Enm ED E En K
  have K : Cx X cX9_refuses RX9 wsX9_refuses (xTys cy) sd := K
  have E : X.2.2.2.2.2.2.2.2.2.2.1 = xMQ X (fun u : Int32 × Int32 => some (.int u.1)) post (fun u => [((A 0), .inr (10, [.ref (A 1), .ref (A 2), .ref (A 3), .ref (A 4), .int mhasKept, .ref (A 5), .int mpasts, .ref (A 6), .int mreports, .int mthrown, .ref (A 7), .ref (A 8), .ref (A 9), .int mordering, .int u.2, .ref (A 10), .int mlength, .int mspot, .int mnumber, .ref (A 11), .int mtolds, .ref (A 12)])), ((A 1), .inl (cy 0, 672, .inl mg)), ((A 2), .inl (cy 0, 672, .inl mkept)), ((A 3), .inl (cy 0, 672, .inl mspare)), ((A 4), .inl (cy 0, 672, .inl mtrial)), ((A 5), .inl (cy 0, 5376, .inl mpast)), ((A 6), .inl (cy 0, 6, .inl mreport)), ((A 7), .inl (cy 0, 5, .inl mpart)), ((A 8), .inl (cy 0, 5, .inl mcome)), ((A 9), .inl (cy 0, 60, .inl morder)), ((A 10), .inl (cy 0, 80, .inl mtext)), ((A 11), .inl (cy 0, 200, .inl mtold)), ((A 12), .inl (cy 0, 672, .inl mahead))]) 0 0 := E
  unfold wp_X9_refuses at hw
  refine g_aload_n K 0 dX9_refuses_0 rfl ?_
  refine g_iload_n K 2 dX9_refuses_1 rfl ?_
  refine g_put (ty := .int) (ws' := [((A 0), .inr (10, [.ref (A 1), .ref (A 2), .ref (A 3), .ref (A 4), .int mhasKept, .ref (A 5), .int mpasts, .ref (A 6), .int mreports, .int mthrown, .ref (A 7), .ref (A 8), .ref (A 9), .int mordering, .int p1, .ref (A 10), .int mlength, .int mspot, .int mnumber, .ref (A 11), .int mtolds, .ref (A 12)])), ((A 1), .inl (cy 0, 672, .inl mg)), ((A 2), .inl (cy 0, 672, .inl mkept)), ((A 3), .inl (cy 0, 672, .inl mspare)), ((A 4), .inl (cy 0, 672, .inl mtrial)), ((A 5), .inl (cy 0, 5376, .inl mpast)), ((A 6), .inl (cy 0, 6, .inl mreport)), ((A 7), .inl (cy 0, 5, .inl mpart)), ((A 8), .inl (cy 0, 5, .inl mcome)), ((A 9), .inl (cy 0, 60, .inl morder)), ((A 10), .inl (cy 0, 80, .inl mtext)), ((A 11), .inl (cy 0, 200, .inl mtold)), ((A 12), .inl (cy 0, 672, .inl mahead))]) K (C := RX9) (T := TX9) (N := 22) 0 14 in_X9_refuses_X9 tyX9 tyX9_ok nmX9 (by decide +kernel) rfl rfl (by decide) rfl (by decide +kernel) rfl rfl (Nat.le_of_ble_eq_true rfl) rfl dX9_refuses_2 ?_
  refine g_iload_n K 1 dX9_refuses_5 rfl ?_
  exact g_zret K E Er (p0, p1) hw rfl rfl rfl (Nat.le_refl _) (Nat.le_refl _) dX9_refuses_6

def wp_X9_against_L43 (mg : XRow) (p0 : Int32) (k43_148 : Int32 → Int32 → Int32 → Int32 → Prop) : Nat → Int32 → Int32 → Int32 → Int32 → Prop
  | 0, _, _, _, _ => False
  | fu + 1, v2, v3, v4, v5 => vp_in 3 672 ∧ (((mg ((3 : Int32).toNatClampNeg)) ≤ v2 → (k43_148 v2 v3 v4 v5)) ∧ (¬ (mg ((3 : Int32).toNatClampNeg)) ≤ v2 → (wp_X9_isFor mg v2 p0 (fun u6 : Bool => (u6 = true → (∀ x8 : Int32, x8 = v5 + 1 → (wp_X9_contractAt v2 1 (fun u9 : Int32 => vp_in u9 672 ∧ ((v4 ≤ (mg (u9).toNatClampNeg) → (wp_X9_reaches mg p0 v2 (fun u10 : Bool => (u10 = true → (wp_X9_contractAt v2 2 (fun u12 : Int32 => vp_in u12 672 ∧ (((mg (u12).toNatClampNeg) ≤ v3 → (∀ x13 : Int32, x13 = v2 + 1 → (wp_X9_against_L43 mg p0 k43_148 fu x13 v3 v4 x8))) ∧ (¬ (mg (u12).toNatClampNeg) ≤ v3 → (wp_X9_contractAt v2 2 (fun u14 : Int32 => vp_in u14 672 ∧ (∀ x15 : Int32, x15 = mg (u14).toNatClampNeg → (∀ x16 : Int32, x16 = v2 + 1 → (wp_X9_against_L43 mg p0 k43_148 fu x16 x15 v4 x8)))))))))) ∧ (u10 = false → (∀ x11 : Int32, x11 = v2 + 1 → (wp_X9_against_L43 mg p0 k43_148 fu x11 v3 v4 x8)))))) ∧ (¬ v4 ≤ (mg (u9).toNatClampNeg) → (wp_X9_contractAt v2 1 (fun u17 : Int32 => vp_in u17 672 ∧ (∀ x18 : Int32, x18 = mg (u17).toNatClampNeg → (wp_X9_reaches mg p0 v2 (fun u19 : Bool => (u19 = true → (wp_X9_contractAt v2 2 (fun u21 : Int32 => vp_in u21 672 ∧ (((mg (u21).toNatClampNeg) ≤ v3 → (∀ x22 : Int32, x22 = v2 + 1 → (wp_X9_against_L43 mg p0 k43_148 fu x22 v3 x18 x8))) ∧ (¬ (mg (u21).toNatClampNeg) ≤ v3 → (wp_X9_contractAt v2 2 (fun u23 : Int32 => vp_in u23 672 ∧ (∀ x24 : Int32, x24 = mg (u23).toNatClampNeg → (∀ x25 : Int32, x25 = v2 + 1 → (wp_X9_against_L43 mg p0 k43_148 fu x25 x24 x18 x8)))))))))) ∧ (u19 = false → (∀ x20 : Int32, x20 = v2 + 1 → (wp_X9_against_L43 mg p0 k43_148 fu x20 v3 x18 x8)))))))))))))) ∧ (u6 = false → (∀ x7 : Int32, x7 = v2 + 1 → (wp_X9_against_L43 mg p0 k43_148 fu x7 v3 v4 v5)))))))
def wp_X9_against (mg : XRow) (mdetail : Int32) (p0 : Int32) (post : (Int32 × Int32) → Prop) : Prop := wp_X9_baleAt p0 7 (fun u1 : Int32 => vp_in u1 672 ∧ (((mg (u1).toNatClampNeg) = 0 → (∃ fl, wp_X9_against_L43 mg p0 (fun (v26 : Int32) (v27 : Int32) (v28 : Int32) (v29 : Int32) => (v29 = 0 → (wp_X9_baleAt p0 5 (fun u33 : Int32 => vp_in u33 672 ∧ (wp_X9_refuses 2 (mg (u33).toNatClampNeg) (fun u34 : Int32 × Int32 => post (u34.1, u34.2)))))) ∧ (¬ v29 = 0 → ((0 ≤ v27 → (wp_X9_bestFor mg p0 (fun u30 : Int32 => (0 ≤ u30 → (post (0, mdetail))) ∧ (¬ 0 ≤ u30 → (wp_X9_refuses 4 v27 (fun u31 : Int32 × Int32 => post (u31.1, u31.2))))))) ∧ (¬ 0 ≤ v27 → (wp_X9_refuses 3 v28 (fun u32 : Int32 × Int32 => post (u32.1, u32.2))))))) fl 0 (-1) 1001 0)) ∧ (¬ (mg (u1).toNatClampNeg) = 0 → (wp_X9_baleAt p0 7 (fun u35 : Int32 => vp_in u35 672 ∧ (wp_X9_refuses 1 (mg (u35).toNatClampNeg) (fun u36 : Int32 × Int32 => post (u36.1, u36.2))))))))
theorem in_X9_against_X9 : ∀ w ∈ u_ws RX9 TX9 22, w ∈ wsX9_against := by decide +kernel
set_option maxRecDepth 100000 in
set_option maxHeartbeats 4000000 in
theorem c_X9_against (l : Launch) (D : va_G) (cy : Nat → ClassId) (sd : xSd) (A : Nat → Nat) (mg : XRow) (mkept : XRow) (mspare : XRow) (mtrial : XRow) (mpast : XRow) (mreport : XRow) (mpart : XRow) (mcome : XRow) (morder : XRow) (mtext : XRow) (mtold : XRow) (mahead : XRow) (mhasKept : Int32) (mpasts : Int32) (mreports : Int32) (mthrown : Int32) (mordering : Int32) (mdetail : Int32) (mlength : Int32) (mspot : Int32) (mnumber : Int32) (mtolds : Int32) (p0 : Int32) {post : (Int32 × Int32) → Prop} (hw : wp_X9_against mg mdetail p0 post) : Ctr l D (xTys cy) sd yX9_against wsX9_against ({ frames := 5, cells := 0, slots := 0, locals := 110 } : Room) [.ref (A 0), .int p0] (fun u : Int32 × Int32 => some (.int u.1)) [((A 0), .inr (10, [.ref (A 1), .ref (A 2), .ref (A 3), .ref (A 4), .int mhasKept, .ref (A 5), .int mpasts, .ref (A 6), .int mreports, .int mthrown, .ref (A 7), .ref (A 8), .ref (A 9), .int mordering, .int mdetail, .ref (A 10), .int mlength, .int mspot, .int mnumber, .ref (A 11), .int mtolds, .ref (A 12)])), ((A 1), .inl (cy 0, 672, .inl mg)), ((A 2), .inl (cy 0, 672, .inl mkept)), ((A 3), .inl (cy 0, 672, .inl mspare)), ((A 4), .inl (cy 0, 672, .inl mtrial)), ((A 5), .inl (cy 0, 5376, .inl mpast)), ((A 6), .inl (cy 0, 6, .inl mreport)), ((A 7), .inl (cy 0, 5, .inl mpart)), ((A 8), .inl (cy 0, 5, .inl mcome)), ((A 9), .inl (cy 0, 60, .inl morder)), ((A 10), .inl (cy 0, 80, .inl mtext)), ((A 11), .inl (cy 0, 200, .inl mtold)), ((A 12), .inl (cy 0, 672, .inl mahead))] (fun u => [((A 0), .inr (10, [.ref (A 1), .ref (A 2), .ref (A 3), .ref (A 4), .int mhasKept, .ref (A 5), .int mpasts, .ref (A 6), .int mreports, .int mthrown, .ref (A 7), .ref (A 8), .ref (A 9), .int mordering, .int u.2, .ref (A 10), .int mlength, .int mspot, .int mnumber, .ref (A 11), .int mtolds, .ref (A 12)])), ((A 1), .inl (cy 0, 672, .inl mg)), ((A 2), .inl (cy 0, 672, .inl mkept)), ((A 3), .inl (cy 0, 672, .inl mspare)), ((A 4), .inl (cy 0, 672, .inl mtrial)), ((A 5), .inl (cy 0, 5376, .inl mpast)), ((A 6), .inl (cy 0, 6, .inl mreport)), ((A 7), .inl (cy 0, 5, .inl mpart)), ((A 8), .inl (cy 0, 5, .inl mcome)), ((A 9), .inl (cy 0, 60, .inl morder)), ((A 10), .inl (cy 0, 80, .inl mtext)), ((A 11), .inl (cy 0, 200, .inl mtold)), ((A 12), .inl (cy 0, 672, .inl mahead))]) post := by
  refine Ctr.of (cc := cX9_against) (maxL := 6) (ret := (some .int)) (lv0 := [(0, .ref (A 0)), (1, .int p0)]) (by decide) rfl (Nat.le_of_ble_eq_true rfl) rfl ?_
  intro X El hR Er Enm ED E En K
  have K : Cx X cX9_against RX9 wsX9_against (xTys cy) sd := K
  have E : X.2.2.2.2.2.2.2.2.2.2.1 = xMQ X (fun u : Int32 × Int32 => some (.int u.1)) post (fun u => [((A 0), .inr (10, [.ref (A 1), .ref (A 2), .ref (A 3), .ref (A 4), .int mhasKept, .ref (A 5), .int mpasts, .ref (A 6), .int mreports, .int mthrown, .ref (A 7), .ref (A 8), .ref (A 9), .int mordering, .int u.2, .ref (A 10), .int mlength, .int mspot, .int mnumber, .ref (A 11), .int mtolds, .ref (A 12)])), ((A 1), .inl (cy 0, 672, .inl mg)), ((A 2), .inl (cy 0, 672, .inl mkept)), ((A 3), .inl (cy 0, 672, .inl mspare)), ((A 4), .inl (cy 0, 672, .inl mtrial)), ((A 5), .inl (cy 0, 5376, .inl mpast)), ((A 6), .inl (cy 0, 6, .inl mreport)), ((A 7), .inl (cy 0, 5, .inl mpart)), ((A 8), .inl (cy 0, 5, .inl mcome)), ((A 9), .inl (cy 0, 60, .inl morder)), ((A 10), .inl (cy 0, 80, .inl mtext)), ((A 11), .inl (cy 0, 200, .inl mtold)), ((A 12), .inl (cy 0, 672, .inl mahead))]) 0 0 := E
  unfold wp_X9_against at hw
  refine g_aload_n K 0 dX9_against_0 rfl ?_
  refine g_get K (C := RX9) (T := TX9) (N := 22) 0 0 in_X9_against_X9 (by decide +kernel) rfl rfl (by decide) rfl dX9_against_1 ?_
  refine g_iload_n K 1 dX9_against_4 rfl ?_
  refine g_bipush (v := 7) K dX9_against_5 rfl ?_
  refine g_callSr (st' := fun u1 => [.int u1, .ref (A 1)]) K hR [.int p0, .int 7] [.ref (A 1)] (c_X9_baleAt X.2.1 (gxD X) cy sd p0 7 hw) gX9_against_X9_baleAt rfl yok_X9_baleAt rfl (by decide) rfl (Nat.le_of_ble_eq_true rfl) dX9_against_7 [] rfl (by decide) (fun _ => rfl) ⟨rfl, rfl⟩ (fun u1 hw => ?_)
  refine g_iald K 1 0 rfl rfl hw.1 dX9_against_10 ?_
  replace hw := hw.2
  refine g_if_eq (tgt := 31) K dX9_against_11 (by decide) (fun hc => ?_) (fun hc => ?_)
  · replace hw := hw.1 hc
    refine g_iconst (v := 0) K dX9_against_31 rfl ?_
    refine g_istore_n (lv' := [(2, .int 0), (0, .ref (A 0)), (1, .int p0)]) K dX9_against_32 rfl (by rw [En]; decide) rfl ?_
    refine g_sipush (v := 1001) K dX9_against_33 rfl ?_
    refine g_istore_n (lv' := [(3, .int 1001), (2, .int 0), (0, .ref (A 0)), (1, .int p0)]) K dX9_against_36 rfl (by rw [En]; decide) rfl ?_
    refine g_iconst (v := (-1)) K dX9_against_37 rfl ?_
    refine g_istore (lv' := [(4, .int (-1)), (3, .int 1001), (2, .int 0), (0, .ref (A 0)), (1, .int p0)]) K dX9_against_38 (by rw [En]; decide) rfl ?_
    refine g_iconst (v := 0) K dX9_against_40 rfl ?_
    refine g_istore (lv' := [(5, .int 0), (4, .int (-1)), (3, .int 1001), (2, .int 0), (0, .ref (A 0)), (1, .int p0)]) K dX9_against_41 (by rw [En]; decide) rfl ?_
    obtain ⟨fl, hw⟩ := hw
    have key : ∀ (k43_148 : Int32 → Int32 → Int32 → Int32 → Prop), (∀ (v2 : Int32) (v3 : Int32) (v4 : Int32) (v5 : Int32), k43_148 v2 v3 v4 v5 → Gx X 0 0 [((A 0), .inr (10, [.ref (A 1), .ref (A 2), .ref (A 3), .ref (A 4), .int mhasKept, .ref (A 5), .int mpasts, .ref (A 6), .int mreports, .int mthrown, .ref (A 7), .ref (A 8), .ref (A 9), .int mordering, .int mdetail, .ref (A 10), .int mlength, .int mspot, .int mnumber, .ref (A 11), .int mtolds, .ref (A 12)])), ((A 1), .inl (cy 0, 672, .inl mg)), ((A 2), .inl (cy 0, 672, .inl mkept)), ((A 3), .inl (cy 0, 672, .inl mspare)), ((A 4), .inl (cy 0, 672, .inl mtrial)), ((A 5), .inl (cy 0, 5376, .inl mpast)), ((A 6), .inl (cy 0, 6, .inl mreport)), ((A 7), .inl (cy 0, 5, .inl mpart)), ((A 8), .inl (cy 0, 5, .inl mcome)), ((A 9), .inl (cy 0, 60, .inl morder)), ((A 10), .inl (cy 0, 80, .inl mtext)), ((A 11), .inl (cy 0, 200, .inl mtold)), ((A 12), .inl (cy 0, 672, .inl mahead))] [(5, .int v2), (4, .int v3), (3, .int v4), (2, .int v5), (0, .ref (A 0)), (1, .int p0)] 148 []) → ∀ (n : Nat) (v2 : Int32) (v3 : Int32) (v4 : Int32) (v5 : Int32), wp_X9_against_L43 mg p0 k43_148 n v2 v3 v4 v5 → Gx X 0 0 [((A 0), .inr (10, [.ref (A 1), .ref (A 2), .ref (A 3), .ref (A 4), .int mhasKept, .ref (A 5), .int mpasts, .ref (A 6), .int mreports, .int mthrown, .ref (A 7), .ref (A 8), .ref (A 9), .int mordering, .int mdetail, .ref (A 10), .int mlength, .int mspot, .int mnumber, .ref (A 11), .int mtolds, .ref (A 12)])), ((A 1), .inl (cy 0, 672, .inl mg)), ((A 2), .inl (cy 0, 672, .inl mkept)), ((A 3), .inl (cy 0, 672, .inl mspare)), ((A 4), .inl (cy 0, 672, .inl mtrial)), ((A 5), .inl (cy 0, 5376, .inl mpast)), ((A 6), .inl (cy 0, 6, .inl mreport)), ((A 7), .inl (cy 0, 5, .inl mpart)), ((A 8), .inl (cy 0, 5, .inl mcome)), ((A 9), .inl (cy 0, 60, .inl morder)), ((A 10), .inl (cy 0, 80, .inl mtext)), ((A 11), .inl (cy 0, 200, .inl mtold)), ((A 12), .inl (cy 0, 672, .inl mahead))] [(5, .int v2), (4, .int v3), (3, .int v4), (2, .int v5), (0, .ref (A 0)), (1, .int p0)] 43 [] := by
      intro k43_148 hx148 n
      induction n with
      | zero => intro v2 v3 v4 v5 hw; exact hw.elim
      | succ n ih =>
        intro v2 v3 v4 v5 hw
        refine g_iload K 0 dX9_against_43 rfl ?_
        refine g_aload_n K 4 dX9_against_45 rfl ?_
        refine g_get K (C := RX9) (T := TX9) (N := 22) 0 0 in_X9_against_X9 (by decide +kernel) rfl rfl (by decide) rfl dX9_against_46 ?_
        refine g_iconst (v := 3) K dX9_against_49 rfl ?_
        refine g_iald K 1 0 rfl rfl hw.1 dX9_against_50 ?_
        replace hw := hw.2
        refine g_icmp_ge (tgt := 148) K dX9_against_51 (by decide) (fun hc => ?_) (fun hc => ?_)
        · replace hw := hw.1 hc
          exact hx148 _ _ _ _ hw
        · replace hw := hw.2 hc
          refine g_aload_n K 4 dX9_against_54 rfl ?_
          refine g_iload K 0 dX9_against_55 rfl ?_
          refine g_iload_n K 5 dX9_against_57 rfl ?_
          refine g_callVr (st' := fun u6 => [.int (bI u6)]) K hR [.int v2, .int p0] [] 0 rfl rfl (c_X9_isFor X.2.1 (gxD X) cy sd A mg mkept mspare mtrial mpast mreport mpart mcome morder mtext mtold mahead mhasKept mpasts mreports mthrown mordering mdetail mlength mspot mnumber mtolds v2 p0 hw) gX9_against_X9_isFor rfl yok_X9_isFor rfl rfl (by decide) rfl (Nat.le_of_ble_eq_true rfl) dX9_against_58 [0, 1, 2, 3, 4, 5, 6, 7, 8, 9, 10, 11, 12] rfl (by decide) (fun _ => rfl) ⟨rfl, rfl⟩ (fun u6 hw => ?_)
          refine g_ifb_eq (tgt := 142) K dX9_against_61 (by decide) (fun hc => ?_) (fun hc => ?_)
          · replace hw := hw.2 hc
            obtain ⟨x7, ex7⟩ : ∃ z : Int32, z = v2 + 1 := ⟨_, rfl⟩
            replace hw := hw x7 ex7
            refine g_iinc (v := x7) (lv' := [(5, .int x7), (4, .int v3), (3, .int v4), (2, .int v5), (0, .ref (A 0)), (1, .int p0)]) K 0 dX9_against_142 rfl (by rw [ex7]; rfl) (by rw [En]; decide) rfl ?_
            refine g_goto (tgt := 43) K dX9_against_145 (by decide) ?_
            exact ih _ _ _ _ hw
          · replace hw := hw.1 hc
            obtain ⟨x8, ex8⟩ : ∃ z : Int32, z = v5 + 1 := ⟨_, rfl⟩
            replace hw := hw x8 ex8
            refine g_iinc (v := x8) (lv' := [(2, .int x8), (5, .int v2), (4, .int v3), (3, .int v4), (0, .ref (A 0)), (1, .int p0)]) K 3 dX9_against_64 rfl (by rw [ex8]; rfl) (by rw [En]; decide) rfl ?_
            refine g_aload_n K 4 dX9_against_67 rfl ?_
            refine g_get K (C := RX9) (T := TX9) (N := 22) 0 0 in_X9_against_X9 (by decide +kernel) rfl rfl (by decide) rfl dX9_against_68 ?_
            refine g_iload K 1 dX9_against_71 rfl ?_
            refine g_iconst (v := 1) K dX9_against_73 rfl ?_
            refine g_callSr (st' := fun u9 => [.int u9, .ref (A 1)]) K hR [.int v2, .int 1] [.ref (A 1)] (c_X9_contractAt X.2.1 (gxD X) cy sd v2 1 hw) gX9_against_X9_contractAt rfl yok_X9_contractAt rfl (by decide) rfl (Nat.le_of_ble_eq_true rfl) dX9_against_74 [] rfl (by decide) (fun _ => rfl) ⟨rfl, rfl⟩ (fun u9 hw => ?_)
            refine g_iald K 1 0 rfl rfl hw.1 dX9_against_77 ?_
            replace hw := hw.2
            refine g_iload_n K 3 dX9_against_78 rfl ?_
            refine g_icmp_ge (tgt := 96) K dX9_against_79 (by decide) (fun hc => ?_) (fun hc => ?_)
            · replace hw := hw.1 hc
              refine g_iload_n K 3 dX9_against_96 rfl ?_
              refine g_istore_n (lv' := [(3, .int v4), (2, .int x8), (5, .int v2), (4, .int v3), (0, .ref (A 0)), (1, .int p0)]) K dX9_against_97 rfl (by rw [En]; decide) rfl ?_
              refine g_aload_n K 4 dX9_against_98 rfl ?_
              refine g_iload_n K 5 dX9_against_99 rfl ?_
              refine g_iload K 2 dX9_against_100 rfl ?_
              refine g_callVr (st' := fun u10 => [.int (bI u10)]) K hR [.int p0, .int v2] [] 0 rfl rfl (c_X9_reaches X.2.1 (gxD X) cy sd A mg mkept mspare mtrial mpast mreport mpart mcome morder mtext mtold mahead mhasKept mpasts mreports mthrown mordering mdetail mlength mspot mnumber mtolds p0 v2 hw) gX9_against_X9_reaches rfl yok_X9_reaches rfl rfl (by decide) rfl (Nat.le_of_ble_eq_true rfl) dX9_against_102 [0, 1, 2, 3, 4, 5, 6, 7, 8, 9, 10, 11, 12] rfl (by decide) (fun _ => rfl) ⟨rfl, rfl⟩ (fun u10 hw => ?_)
              refine g_ifb_eq (tgt := 138) K dX9_against_105 (by decide) (fun hc => ?_) (fun hc => ?_)
              · replace hw := hw.2 hc
                refine g_iload K 3 dX9_against_138 rfl ?_
                refine g_istore (lv' := [(4, .int v3), (3, .int v4), (2, .int x8), (5, .int v2), (0, .ref (A 0)), (1, .int p0)]) K dX9_against_140 (by rw [En]; decide) rfl ?_
                obtain ⟨x11, ex11⟩ : ∃ z : Int32, z = v2 + 1 := ⟨_, rfl⟩
                replace hw := hw x11 ex11
                refine g_iinc (v := x11) (lv' := [(5, .int x11), (4, .int v3), (3, .int v4), (2, .int x8), (0, .ref (A 0)), (1, .int p0)]) K 3 dX9_against_142 rfl (by rw [ex11]; rfl) (by rw [En]; decide) rfl ?_
                refine g_goto (tgt := 43) K dX9_against_145 (by decide) ?_
                exact ih _ _ _ _ hw
              · replace hw := hw.1 hc
                refine g_aload_n K 4 dX9_against_108 rfl ?_
                refine g_get K (C := RX9) (T := TX9) (N := 22) 0 0 in_X9_against_X9 (by decide +kernel) rfl rfl (by decide) rfl dX9_against_109 ?_
                refine g_iload K 2 dX9_against_112 rfl ?_
                refine g_iconst (v := 2) K dX9_against_114 rfl ?_
                refine g_callSr (st' := fun u12 => [.int u12, .ref (A 1)]) K hR [.int v2, .int 2] [.ref (A 1)] (c_X9_contractAt X.2.1 (gxD X) cy sd v2 2 hw) gX9_against_X9_contractAt rfl yok_X9_contractAt rfl (by decide) rfl (Nat.le_of_ble_eq_true rfl) dX9_against_115 [] rfl (by decide) (fun _ => rfl) ⟨rfl, rfl⟩ (fun u12 hw => ?_)
                refine g_iald K 1 0 rfl rfl hw.1 dX9_against_118 ?_
                replace hw := hw.2
                refine g_iload K 3 dX9_against_119 rfl ?_
                refine g_icmp_le (tgt := 138) K dX9_against_121 (by decide) (fun hc => ?_) (fun hc => ?_)
                · replace hw := hw.1 hc
                  refine g_iload K 3 dX9_against_138 rfl ?_
                  refine g_istore (lv' := [(4, .int v3), (3, .int v4), (2, .int x8), (5, .int v2), (0, .ref (A 0)), (1, .int p0)]) K dX9_against_140 (by rw [En]; decide) rfl ?_
                  obtain ⟨x13, ex13⟩ : ∃ z : Int32, z = v2 + 1 := ⟨_, rfl⟩
                  replace hw := hw x13 ex13
                  refine g_iinc (v := x13) (lv' := [(5, .int x13), (4, .int v3), (3, .int v4), (2, .int x8), (0, .ref (A 0)), (1, .int p0)]) K 3 dX9_against_142 rfl (by rw [ex13]; rfl) (by rw [En]; decide) rfl ?_
                  refine g_goto (tgt := 43) K dX9_against_145 (by decide) ?_
                  exact ih _ _ _ _ hw
                · replace hw := hw.2 hc
                  refine g_aload_n K 4 dX9_against_124 rfl ?_
                  refine g_get K (C := RX9) (T := TX9) (N := 22) 0 0 in_X9_against_X9 (by decide +kernel) rfl rfl (by decide) rfl dX9_against_125 ?_
                  refine g_iload K 2 dX9_against_128 rfl ?_
                  refine g_iconst (v := 2) K dX9_against_130 rfl ?_
                  refine g_callSr (st' := fun u14 => [.int u14, .ref (A 1)]) K hR [.int v2, .int 2] [.ref (A 1)] (c_X9_contractAt X.2.1 (gxD X) cy sd v2 2 hw) gX9_against_X9_contractAt rfl yok_X9_contractAt rfl (by decide) rfl (Nat.le_of_ble_eq_true rfl) dX9_against_131 [] rfl (by decide) (fun _ => rfl) ⟨rfl, rfl⟩ (fun u14 hw => ?_)
                  refine g_iald K 1 0 rfl rfl hw.1 dX9_against_134 ?_
                  replace hw := hw.2
                  refine g_goto (tgt := 140) K dX9_against_135 (by decide) ?_
                  refine g_topi (fun x15 ex15 => ?_)
                  replace hw := hw x15 ex15
                  refine g_istore (lv' := [(4, .int x15), (3, .int v4), (2, .int x8), (5, .int v2), (0, .ref (A 0)), (1, .int p0)]) K dX9_against_140 (by rw [En]; decide) rfl ?_
                  obtain ⟨x16, ex16⟩ : ∃ z : Int32, z = v2 + 1 := ⟨_, rfl⟩
                  replace hw := hw x16 ex16
                  refine g_iinc (v := x16) (lv' := [(5, .int x16), (4, .int x15), (3, .int v4), (2, .int x8), (0, .ref (A 0)), (1, .int p0)]) K 3 dX9_against_142 rfl (by rw [ex16]; rfl) (by rw [En]; decide) rfl ?_
                  refine g_goto (tgt := 43) K dX9_against_145 (by decide) ?_
                  exact ih _ _ _ _ hw
            · replace hw := hw.2 hc
              refine g_aload_n K 4 dX9_against_82 rfl ?_
              refine g_get K (C := RX9) (T := TX9) (N := 22) 0 0 in_X9_against_X9 (by decide +kernel) rfl rfl (by decide) rfl dX9_against_83 ?_
              refine g_iload K 1 dX9_against_86 rfl ?_
              refine g_iconst (v := 1) K dX9_against_88 rfl ?_
              refine g_callSr (st' := fun u17 => [.int u17, .ref (A 1)]) K hR [.int v2, .int 1] [.ref (A 1)] (c_X9_contractAt X.2.1 (gxD X) cy sd v2 1 hw) gX9_against_X9_contractAt rfl yok_X9_contractAt rfl (by decide) rfl (Nat.le_of_ble_eq_true rfl) dX9_against_89 [] rfl (by decide) (fun _ => rfl) ⟨rfl, rfl⟩ (fun u17 hw => ?_)
              refine g_iald K 1 0 rfl rfl hw.1 dX9_against_92 ?_
              replace hw := hw.2
              refine g_goto (tgt := 97) K dX9_against_93 (by decide) ?_
              refine g_topi (fun x18 ex18 => ?_)
              replace hw := hw x18 ex18
              refine g_istore_n (lv' := [(3, .int x18), (2, .int x8), (5, .int v2), (4, .int v3), (0, .ref (A 0)), (1, .int p0)]) K dX9_against_97 rfl (by rw [En]; decide) rfl ?_
              refine g_aload_n K 4 dX9_against_98 rfl ?_
              refine g_iload_n K 5 dX9_against_99 rfl ?_
              refine g_iload K 2 dX9_against_100 rfl ?_
              refine g_callVr (st' := fun u19 => [.int (bI u19)]) K hR [.int p0, .int v2] [] 0 rfl rfl (c_X9_reaches X.2.1 (gxD X) cy sd A mg mkept mspare mtrial mpast mreport mpart mcome morder mtext mtold mahead mhasKept mpasts mreports mthrown mordering mdetail mlength mspot mnumber mtolds p0 v2 hw) gX9_against_X9_reaches rfl yok_X9_reaches rfl rfl (by decide) rfl (Nat.le_of_ble_eq_true rfl) dX9_against_102 [0, 1, 2, 3, 4, 5, 6, 7, 8, 9, 10, 11, 12] rfl (by decide) (fun _ => rfl) ⟨rfl, rfl⟩ (fun u19 hw => ?_)
              refine g_ifb_eq (tgt := 138) K dX9_against_105 (by decide) (fun hc => ?_) (fun hc => ?_)
              · replace hw := hw.2 hc
                refine g_iload K 3 dX9_against_138 rfl ?_
                refine g_istore (lv' := [(4, .int v3), (3, .int x18), (2, .int x8), (5, .int v2), (0, .ref (A 0)), (1, .int p0)]) K dX9_against_140 (by rw [En]; decide) rfl ?_
                obtain ⟨x20, ex20⟩ : ∃ z : Int32, z = v2 + 1 := ⟨_, rfl⟩
                replace hw := hw x20 ex20
                refine g_iinc (v := x20) (lv' := [(5, .int x20), (4, .int v3), (3, .int x18), (2, .int x8), (0, .ref (A 0)), (1, .int p0)]) K 3 dX9_against_142 rfl (by rw [ex20]; rfl) (by rw [En]; decide) rfl ?_
                refine g_goto (tgt := 43) K dX9_against_145 (by decide) ?_
                exact ih _ _ _ _ hw
              · replace hw := hw.1 hc
                refine g_aload_n K 4 dX9_against_108 rfl ?_
                refine g_get K (C := RX9) (T := TX9) (N := 22) 0 0 in_X9_against_X9 (by decide +kernel) rfl rfl (by decide) rfl dX9_against_109 ?_
                refine g_iload K 2 dX9_against_112 rfl ?_
                refine g_iconst (v := 2) K dX9_against_114 rfl ?_
                refine g_callSr (st' := fun u21 => [.int u21, .ref (A 1)]) K hR [.int v2, .int 2] [.ref (A 1)] (c_X9_contractAt X.2.1 (gxD X) cy sd v2 2 hw) gX9_against_X9_contractAt rfl yok_X9_contractAt rfl (by decide) rfl (Nat.le_of_ble_eq_true rfl) dX9_against_115 [] rfl (by decide) (fun _ => rfl) ⟨rfl, rfl⟩ (fun u21 hw => ?_)
                refine g_iald K 1 0 rfl rfl hw.1 dX9_against_118 ?_
                replace hw := hw.2
                refine g_iload K 3 dX9_against_119 rfl ?_
                refine g_icmp_le (tgt := 138) K dX9_against_121 (by decide) (fun hc => ?_) (fun hc => ?_)
                · replace hw := hw.1 hc
                  refine g_iload K 3 dX9_against_138 rfl ?_
                  refine g_istore (lv' := [(4, .int v3), (3, .int x18), (2, .int x8), (5, .int v2), (0, .ref (A 0)), (1, .int p0)]) K dX9_against_140 (by rw [En]; decide) rfl ?_
                  obtain ⟨x22, ex22⟩ : ∃ z : Int32, z = v2 + 1 := ⟨_, rfl⟩
                  replace hw := hw x22 ex22
                  refine g_iinc (v := x22) (lv' := [(5, .int x22), (4, .int v3), (3, .int x18), (2, .int x8), (0, .ref (A 0)), (1, .int p0)]) K 3 dX9_against_142 rfl (by rw [ex22]; rfl) (by rw [En]; decide) rfl ?_
                  refine g_goto (tgt := 43) K dX9_against_145 (by decide) ?_
                  exact ih _ _ _ _ hw
                · replace hw := hw.2 hc
                  refine g_aload_n K 4 dX9_against_124 rfl ?_
                  refine g_get K (C := RX9) (T := TX9) (N := 22) 0 0 in_X9_against_X9 (by decide +kernel) rfl rfl (by decide) rfl dX9_against_125 ?_
                  refine g_iload K 2 dX9_against_128 rfl ?_
                  refine g_iconst (v := 2) K dX9_against_130 rfl ?_
                  refine g_callSr (st' := fun u23 => [.int u23, .ref (A 1)]) K hR [.int v2, .int 2] [.ref (A 1)] (c_X9_contractAt X.2.1 (gxD X) cy sd v2 2 hw) gX9_against_X9_contractAt rfl yok_X9_contractAt rfl (by decide) rfl (Nat.le_of_ble_eq_true rfl) dX9_against_131 [] rfl (by decide) (fun _ => rfl) ⟨rfl, rfl⟩ (fun u23 hw => ?_)
                  refine g_iald K 1 0 rfl rfl hw.1 dX9_against_134 ?_
                  replace hw := hw.2
                  refine g_goto (tgt := 140) K dX9_against_135 (by decide) ?_
                  refine g_topi (fun x24 ex24 => ?_)
                  replace hw := hw x24 ex24
                  refine g_istore (lv' := [(4, .int x24), (3, .int x18), (2, .int x8), (5, .int v2), (0, .ref (A 0)), (1, .int p0)]) K dX9_against_140 (by rw [En]; decide) rfl ?_
                  obtain ⟨x25, ex25⟩ : ∃ z : Int32, z = v2 + 1 := ⟨_, rfl⟩
                  replace hw := hw x25 ex25
                  refine g_iinc (v := x25) (lv' := [(5, .int x25), (4, .int x24), (3, .int x18), (2, .int x8), (0, .ref (A 0)), (1, .int p0)]) K 3 dX9_against_142 rfl (by rw [ex25]; rfl) (by rw [En]; decide) rfl ?_
                  refine g_goto (tgt := 43) K dX9_against_145 (by decide) ?_
                  exact ih _ _ _ _ hw
    refine key _ (fun v26 v27 v28 v29 hw => ?_) fl _ _ _ _ hw
    refine g_iload_n K 3 dX9_against_148 rfl ?_
    refine g_if_ne (tgt := 168) K dX9_against_149 (by decide) (fun hc => ?_) (fun hc => ?_)
    · replace hw := hw.2 hc
      refine g_iload K 1 dX9_against_168 rfl ?_
      refine g_if_ge (tgt := 180) K dX9_against_170 (by decide) (fun hc => ?_) (fun hc => ?_)
      · replace hw := hw.1 hc
        refine g_aload_n K 4 dX9_against_180 rfl ?_
        refine g_iload_n K 5 dX9_against_181 rfl ?_
        refine g_callVr (st' := fun u30 => [.int u30]) K hR [.int p0] [] 0 rfl rfl (c_X9_bestFor X.2.1 (gxD X) cy sd A mg mkept mspare mtrial mpast mreport mpart mcome morder mtext mtold mahead mhasKept mpasts mreports mthrown mordering mdetail mlength mspot mnumber mtolds p0 hw) gX9_against_X9_bestFor rfl yok_X9_bestFor rfl rfl (by decide) rfl (Nat.le_of_ble_eq_true rfl) dX9_against_182 [0, 1, 2, 3, 4, 5, 6, 7, 8, 9, 10, 11, 12] rfl (by decide) (fun _ => rfl) ⟨rfl, rfl⟩ (fun u30 hw => ?_)
        refine g_if_ge (tgt := 198) K dX9_against_185 (by decide) (fun hc => ?_) (fun hc => ?_)
        · replace hw := hw.1 hc
          refine g_iconst (v := 0) K dX9_against_198 rfl ?_
          exact g_zret K E Er (0, mdetail) hw rfl rfl rfl (Nat.le_refl _) (Nat.le_refl _) dX9_against_199
        · replace hw := hw.2 hc
          refine g_aload_n K 4 dX9_against_188 rfl ?_
          refine g_iconst (v := 4) K dX9_against_189 rfl ?_
          refine g_iload K 1 dX9_against_190 rfl ?_
          refine g_callV (st' := fun u31 => [.int u31.1]) (ws' := fun u31 => [((A 0), .inr (10, [.ref (A 1), .ref (A 2), .ref (A 3), .ref (A 4), .int mhasKept, .ref (A 5), .int mpasts, .ref (A 6), .int mreports, .int mthrown, .ref (A 7), .ref (A 8), .ref (A 9), .int mordering, .int u31.2, .ref (A 10), .int mlength, .int mspot, .int mnumber, .ref (A 11), .int mtolds, .ref (A 12)])), ((A 1), .inl (cy 0, 672, .inl mg)), ((A 2), .inl (cy 0, 672, .inl mkept)), ((A 3), .inl (cy 0, 672, .inl mspare)), ((A 4), .inl (cy 0, 672, .inl mtrial)), ((A 5), .inl (cy 0, 5376, .inl mpast)), ((A 6), .inl (cy 0, 6, .inl mreport)), ((A 7), .inl (cy 0, 5, .inl mpart)), ((A 8), .inl (cy 0, 5, .inl mcome)), ((A 9), .inl (cy 0, 60, .inl morder)), ((A 10), .inl (cy 0, 80, .inl mtext)), ((A 11), .inl (cy 0, 200, .inl mtold)), ((A 12), .inl (cy 0, 672, .inl mahead))]) K hR [.int 4, .int v27] [] 0 rfl rfl (c_X9_refuses X.2.1 (gxD X) cy sd A mg mkept mspare mtrial mpast mreport mpart mcome morder mtext mtold mahead mhasKept mpasts mreports mthrown mordering mdetail mlength mspot mnumber mtolds 4 v27 hw) gX9_against_X9_refuses rfl yok_X9_refuses rfl rfl (by decide) rfl (Nat.le_of_ble_eq_true rfl) dX9_against_192 [0, 1, 2, 3, 4, 5, 6, 7, 8, 9, 10, 11, 12] rfl (by decide) (fun _ => rfl) (fun _ => rfl) (fun _ => rfl) ⟨rfl, rfl⟩ (fun u31 hw => ?_)
          refine g_goto (tgt := 199) K dX9_against_195 (by decide) ?_
          exact g_zret K E Er (u31.1, u31.2) hw rfl rfl rfl (Nat.le_refl _) (Nat.le_refl _) dX9_against_199
      · replace hw := hw.2 hc
        refine g_aload_n K 4 dX9_against_173 rfl ?_
        refine g_iconst (v := 3) K dX9_against_174 rfl ?_
        refine g_iload_n K 2 dX9_against_175 rfl ?_
        refine g_callV (st' := fun u32 => [.int u32.1]) (ws' := fun u32 => [((A 0), .inr (10, [.ref (A 1), .ref (A 2), .ref (A 3), .ref (A 4), .int mhasKept, .ref (A 5), .int mpasts, .ref (A 6), .int mreports, .int mthrown, .ref (A 7), .ref (A 8), .ref (A 9), .int mordering, .int u32.2, .ref (A 10), .int mlength, .int mspot, .int mnumber, .ref (A 11), .int mtolds, .ref (A 12)])), ((A 1), .inl (cy 0, 672, .inl mg)), ((A 2), .inl (cy 0, 672, .inl mkept)), ((A 3), .inl (cy 0, 672, .inl mspare)), ((A 4), .inl (cy 0, 672, .inl mtrial)), ((A 5), .inl (cy 0, 5376, .inl mpast)), ((A 6), .inl (cy 0, 6, .inl mreport)), ((A 7), .inl (cy 0, 5, .inl mpart)), ((A 8), .inl (cy 0, 5, .inl mcome)), ((A 9), .inl (cy 0, 60, .inl morder)), ((A 10), .inl (cy 0, 80, .inl mtext)), ((A 11), .inl (cy 0, 200, .inl mtold)), ((A 12), .inl (cy 0, 672, .inl mahead))]) K hR [.int 3, .int v28] [] 0 rfl rfl (c_X9_refuses X.2.1 (gxD X) cy sd A mg mkept mspare mtrial mpast mreport mpart mcome morder mtext mtold mahead mhasKept mpasts mreports mthrown mordering mdetail mlength mspot mnumber mtolds 3 v28 hw) gX9_against_X9_refuses rfl yok_X9_refuses rfl rfl (by decide) rfl (Nat.le_of_ble_eq_true rfl) dX9_against_176 [0, 1, 2, 3, 4, 5, 6, 7, 8, 9, 10, 11, 12] rfl (by decide) (fun _ => rfl) (fun _ => rfl) (fun _ => rfl) ⟨rfl, rfl⟩ (fun u32 hw => ?_)
        exact g_zret K E Er (u32.1, u32.2) hw rfl rfl rfl (Nat.le_refl _) (Nat.le_refl _) dX9_against_179
    · replace hw := hw.1 hc
      refine g_aload_n K 4 dX9_against_152 rfl ?_
      refine g_iconst (v := 2) K dX9_against_153 rfl ?_
      refine g_aload_n K 4 dX9_against_154 rfl ?_
      refine g_get K (C := RX9) (T := TX9) (N := 22) 0 0 in_X9_against_X9 (by decide +kernel) rfl rfl (by decide) rfl dX9_against_155 ?_
      refine g_iload_n K 5 dX9_against_158 rfl ?_
      refine g_iconst (v := 5) K dX9_against_159 rfl ?_
      refine g_callSr (st' := fun u33 => [.int u33, .ref (A 1), .int 2, .ref (A 0)]) K hR [.int p0, .int 5] [.ref (A 1), .int 2, .ref (A 0)] (c_X9_baleAt X.2.1 (gxD X) cy sd p0 5 hw) gX9_against_X9_baleAt rfl yok_X9_baleAt rfl (by decide) rfl (Nat.le_of_ble_eq_true rfl) dX9_against_160 [] rfl (by decide) (fun _ => rfl) ⟨rfl, rfl⟩ (fun u33 hw => ?_)
      refine g_iald K 1 0 rfl rfl hw.1 dX9_against_163 ?_
      replace hw := hw.2
      refine g_callV (st' := fun u34 => [.int u34.1]) (ws' := fun u34 => [((A 0), .inr (10, [.ref (A 1), .ref (A 2), .ref (A 3), .ref (A 4), .int mhasKept, .ref (A 5), .int mpasts, .ref (A 6), .int mreports, .int mthrown, .ref (A 7), .ref (A 8), .ref (A 9), .int mordering, .int u34.2, .ref (A 10), .int mlength, .int mspot, .int mnumber, .ref (A 11), .int mtolds, .ref (A 12)])), ((A 1), .inl (cy 0, 672, .inl mg)), ((A 2), .inl (cy 0, 672, .inl mkept)), ((A 3), .inl (cy 0, 672, .inl mspare)), ((A 4), .inl (cy 0, 672, .inl mtrial)), ((A 5), .inl (cy 0, 5376, .inl mpast)), ((A 6), .inl (cy 0, 6, .inl mreport)), ((A 7), .inl (cy 0, 5, .inl mpart)), ((A 8), .inl (cy 0, 5, .inl mcome)), ((A 9), .inl (cy 0, 60, .inl morder)), ((A 10), .inl (cy 0, 80, .inl mtext)), ((A 11), .inl (cy 0, 200, .inl mtold)), ((A 12), .inl (cy 0, 672, .inl mahead))]) K hR [.int 2, .int (mg (u33).toNatClampNeg)] [] 0 rfl rfl (c_X9_refuses X.2.1 (gxD X) cy sd A mg mkept mspare mtrial mpast mreport mpart mcome morder mtext mtold mahead mhasKept mpasts mreports mthrown mordering mdetail mlength mspot mnumber mtolds 2 (mg (u33).toNatClampNeg) hw) gX9_against_X9_refuses rfl yok_X9_refuses rfl rfl (by decide) rfl (Nat.le_of_ble_eq_true rfl) dX9_against_164 [0, 1, 2, 3, 4, 5, 6, 7, 8, 9, 10, 11, 12] rfl (by decide) (fun _ => rfl) (fun _ => rfl) (fun _ => rfl) ⟨rfl, rfl⟩ (fun u34 hw => ?_)
      exact g_zret K E Er (u34.1, u34.2) hw rfl rfl rfl (Nat.le_refl _) (Nat.le_refl _) dX9_against_167
  · replace hw := hw.2 hc
    refine g_aload_n K 0 dX9_against_14 rfl ?_
    refine g_iconst (v := 1) K dX9_against_15 rfl ?_
    refine g_aload_n K 0 dX9_against_16 rfl ?_
    refine g_get K (C := RX9) (T := TX9) (N := 22) 0 0 in_X9_against_X9 (by decide +kernel) rfl rfl (by decide) rfl dX9_against_17 ?_
    refine g_iload_n K 1 dX9_against_20 rfl ?_
    refine g_bipush (v := 7) K dX9_against_21 rfl ?_
    refine g_callSr (st' := fun u35 => [.int u35, .ref (A 1), .int 1, .ref (A 0)]) K hR [.int p0, .int 7] [.ref (A 1), .int 1, .ref (A 0)] (c_X9_baleAt X.2.1 (gxD X) cy sd p0 7 hw) gX9_against_X9_baleAt rfl yok_X9_baleAt rfl (by decide) rfl (Nat.le_of_ble_eq_true rfl) dX9_against_23 [] rfl (by decide) (fun _ => rfl) ⟨rfl, rfl⟩ (fun u35 hw => ?_)
    refine g_iald K 1 0 rfl rfl hw.1 dX9_against_26 ?_
    replace hw := hw.2
    refine g_callV (st' := fun u36 => [.int u36.1]) (ws' := fun u36 => [((A 0), .inr (10, [.ref (A 1), .ref (A 2), .ref (A 3), .ref (A 4), .int mhasKept, .ref (A 5), .int mpasts, .ref (A 6), .int mreports, .int mthrown, .ref (A 7), .ref (A 8), .ref (A 9), .int mordering, .int u36.2, .ref (A 10), .int mlength, .int mspot, .int mnumber, .ref (A 11), .int mtolds, .ref (A 12)])), ((A 1), .inl (cy 0, 672, .inl mg)), ((A 2), .inl (cy 0, 672, .inl mkept)), ((A 3), .inl (cy 0, 672, .inl mspare)), ((A 4), .inl (cy 0, 672, .inl mtrial)), ((A 5), .inl (cy 0, 5376, .inl mpast)), ((A 6), .inl (cy 0, 6, .inl mreport)), ((A 7), .inl (cy 0, 5, .inl mpart)), ((A 8), .inl (cy 0, 5, .inl mcome)), ((A 9), .inl (cy 0, 60, .inl morder)), ((A 10), .inl (cy 0, 80, .inl mtext)), ((A 11), .inl (cy 0, 200, .inl mtold)), ((A 12), .inl (cy 0, 672, .inl mahead))]) K hR [.int 1, .int (mg (u35).toNatClampNeg)] [] 0 rfl rfl (c_X9_refuses X.2.1 (gxD X) cy sd A mg mkept mspare mtrial mpast mreport mpart mcome morder mtext mtold mahead mhasKept mpasts mreports mthrown mordering mdetail mlength mspot mnumber mtolds 1 (mg (u35).toNatClampNeg) hw) gX9_against_X9_refuses rfl yok_X9_refuses rfl rfl (by decide) rfl (Nat.le_of_ble_eq_true rfl) dX9_against_27 [0, 1, 2, 3, 4, 5, 6, 7, 8, 9, 10, 11, 12] rfl (by decide) (fun _ => rfl) (fun _ => rfl) (fun _ => rfl) ⟨rfl, rfl⟩ (fun u36 hw => ?_)
    exact g_zret K E Er (u36.1, u36.2) hw rfl rfl rfl (Nat.le_refl _) (Nat.le_refl _) dX9_against_30

def wp_X9_sells (mg : XRow) (p0 : Int32) (post : (Int32 × XRow) → Prop) : Prop := wp_X9_bestFor mg p0 (fun u1 : Int32 => wp_X9_kilosOf mg p0 (fun u2 : Int32 => wp_X9_contractAt u1 2 (fun u3 : Int32 => vp_in u3 672 ∧ (vp_in u3 672 ∧ (wp_X9_contractAt u1 4 (fun u4 : Int32 => vp_in u4 672 ∧ (vp_in u4 672 ∧ (vp_in 5 672 ∧ (wp_X9_contractAt u1 3 (fun u5 : Int32 => vp_in u5 672 ∧ (vp_in 5 672 ∧ (wp_X9_baleAt p0 7 (fun u6 : Int32 => vp_in u6 672 ∧ (wp_X9_baleAt p0 8 (fun u7 : Int32 => vp_in u7 672 ∧ (post (u1, upd (upd (upd (upd (upd mg (u3).toNatClampNeg ((mg (u3).toNatClampNeg) - u2)) (u4).toNatClampNeg (((upd mg (u3).toNatClampNeg ((mg (u3).toNatClampNeg) - u2)) (u4).toNatClampNeg) + 1)) ((5 : Int32).toNatClampNeg) (((upd (upd mg (u3).toNatClampNeg ((mg (u3).toNatClampNeg) - u2)) (u4).toNatClampNeg (((upd mg (u3).toNatClampNeg ((mg (u3).toNatClampNeg) - u2)) (u4).toNatClampNeg) + 1)) ((5 : Int32).toNatClampNeg)) + (u2 * ((upd (upd mg (u3).toNatClampNeg ((mg (u3).toNatClampNeg) - u2)) (u4).toNatClampNeg (((upd mg (u3).toNatClampNeg ((mg (u3).toNatClampNeg) - u2)) (u4).toNatClampNeg) + 1)) (u5).toNatClampNeg)))) (u6).toNatClampNeg 1) (u7).toNatClampNeg u1)))))))))))))))))
theorem in_X9_sells_X9 : ∀ w ∈ u_ws RX9 TX9 22, w ∈ wsX9_sells := by decide +kernel
set_option maxRecDepth 100000 in
set_option maxHeartbeats 4000000 in
theorem c_X9_sells (l : Launch) (D : va_G) (cy : Nat → ClassId) (sd : xSd) (A : Nat → Nat) (mg : XRow) (mkept : XRow) (mspare : XRow) (mtrial : XRow) (mpast : XRow) (mreport : XRow) (mpart : XRow) (mcome : XRow) (morder : XRow) (mtext : XRow) (mtold : XRow) (mahead : XRow) (mhasKept : Int32) (mpasts : Int32) (mreports : Int32) (mthrown : Int32) (mordering : Int32) (mdetail : Int32) (mlength : Int32) (mspot : Int32) (mnumber : Int32) (mtolds : Int32) (p0 : Int32) {post : (Int32 × XRow) → Prop} (hw : wp_X9_sells mg p0 post) : Ctr l D (xTys cy) sd yX9_sells wsX9_sells ({ frames := 5, cells := 0, slots := 0, locals := 110 } : Room) [.ref (A 0), .int p0] (fun u : Int32 × XRow => some (.int u.1)) [((A 0), .inr (10, [.ref (A 1), .ref (A 2), .ref (A 3), .ref (A 4), .int mhasKept, .ref (A 5), .int mpasts, .ref (A 6), .int mreports, .int mthrown, .ref (A 7), .ref (A 8), .ref (A 9), .int mordering, .int mdetail, .ref (A 10), .int mlength, .int mspot, .int mnumber, .ref (A 11), .int mtolds, .ref (A 12)])), ((A 1), .inl (cy 0, 672, .inl mg)), ((A 2), .inl (cy 0, 672, .inl mkept)), ((A 3), .inl (cy 0, 672, .inl mspare)), ((A 4), .inl (cy 0, 672, .inl mtrial)), ((A 5), .inl (cy 0, 5376, .inl mpast)), ((A 6), .inl (cy 0, 6, .inl mreport)), ((A 7), .inl (cy 0, 5, .inl mpart)), ((A 8), .inl (cy 0, 5, .inl mcome)), ((A 9), .inl (cy 0, 60, .inl morder)), ((A 10), .inl (cy 0, 80, .inl mtext)), ((A 11), .inl (cy 0, 200, .inl mtold)), ((A 12), .inl (cy 0, 672, .inl mahead))] (fun u => [((A 0), .inr (10, [.ref (A 1), .ref (A 2), .ref (A 3), .ref (A 4), .int mhasKept, .ref (A 5), .int mpasts, .ref (A 6), .int mreports, .int mthrown, .ref (A 7), .ref (A 8), .ref (A 9), .int mordering, .int mdetail, .ref (A 10), .int mlength, .int mspot, .int mnumber, .ref (A 11), .int mtolds, .ref (A 12)])), ((A 1), .inl (cy 0, 672, .inl u.2)), ((A 2), .inl (cy 0, 672, .inl mkept)), ((A 3), .inl (cy 0, 672, .inl mspare)), ((A 4), .inl (cy 0, 672, .inl mtrial)), ((A 5), .inl (cy 0, 5376, .inl mpast)), ((A 6), .inl (cy 0, 6, .inl mreport)), ((A 7), .inl (cy 0, 5, .inl mpart)), ((A 8), .inl (cy 0, 5, .inl mcome)), ((A 9), .inl (cy 0, 60, .inl morder)), ((A 10), .inl (cy 0, 80, .inl mtext)), ((A 11), .inl (cy 0, 200, .inl mtold)), ((A 12), .inl (cy 0, 672, .inl mahead))]) post := by
  refine Ctr.of (cc := cX9_sells) (maxL := 4) (ret := (some .int)) (lv0 := [(0, .ref (A 0)), (1, .int p0)]) (by decide) rfl (Nat.le_of_ble_eq_true rfl) rfl ?_
  intro X El hR Er Enm ED E En K
  have K : Cx X cX9_sells RX9 wsX9_sells (xTys cy) sd := K
  have E : X.2.2.2.2.2.2.2.2.2.2.1 = xMQ X (fun u : Int32 × XRow => some (.int u.1)) post (fun u => [((A 0), .inr (10, [.ref (A 1), .ref (A 2), .ref (A 3), .ref (A 4), .int mhasKept, .ref (A 5), .int mpasts, .ref (A 6), .int mreports, .int mthrown, .ref (A 7), .ref (A 8), .ref (A 9), .int mordering, .int mdetail, .ref (A 10), .int mlength, .int mspot, .int mnumber, .ref (A 11), .int mtolds, .ref (A 12)])), ((A 1), .inl (cy 0, 672, .inl u.2)), ((A 2), .inl (cy 0, 672, .inl mkept)), ((A 3), .inl (cy 0, 672, .inl mspare)), ((A 4), .inl (cy 0, 672, .inl mtrial)), ((A 5), .inl (cy 0, 5376, .inl mpast)), ((A 6), .inl (cy 0, 6, .inl mreport)), ((A 7), .inl (cy 0, 5, .inl mpart)), ((A 8), .inl (cy 0, 5, .inl mcome)), ((A 9), .inl (cy 0, 60, .inl morder)), ((A 10), .inl (cy 0, 80, .inl mtext)), ((A 11), .inl (cy 0, 200, .inl mtold)), ((A 12), .inl (cy 0, 672, .inl mahead))]) 0 0 := E
  unfold wp_X9_sells at hw
  refine g_aload_n K 0 dX9_sells_0 rfl ?_
  refine g_iload_n K 1 dX9_sells_1 rfl ?_
  refine g_callVr (st' := fun u1 => [.int u1]) K hR [.int p0] [] 0 rfl rfl (c_X9_bestFor X.2.1 (gxD X) cy sd A mg mkept mspare mtrial mpast mreport mpart mcome morder mtext mtold mahead mhasKept mpasts mreports mthrown mordering mdetail mlength mspot mnumber mtolds p0 hw) gX9_sells_X9_bestFor rfl yok_X9_bestFor rfl rfl (by decide) rfl (Nat.le_of_ble_eq_true rfl) dX9_sells_2 [0, 1, 2, 3, 4, 5, 6, 7, 8, 9, 10, 11, 12] rfl (by decide) (fun _ => rfl) ⟨rfl, rfl⟩ (fun u1 hw => ?_)
  refine g_istore_n (lv' := [(2, .int u1), (0, .ref (A 0)), (1, .int p0)]) K dX9_sells_5 rfl (by rw [En]; decide) rfl ?_
  refine g_aload_n K 1 dX9_sells_6 rfl ?_
  refine g_iload_n K 2 dX9_sells_7 rfl ?_
  refine g_callVr (st' := fun u2 => [.int u2]) K hR [.int p0] [] 0 rfl rfl (c_X9_kilosOf X.2.1 (gxD X) cy sd A mg mkept mspare mtrial mpast mreport mpart mcome morder mtext mtold mahead mhasKept mpasts mreports mthrown mordering mdetail mlength mspot mnumber mtolds p0 hw) gX9_sells_X9_kilosOf rfl yok_X9_kilosOf rfl rfl (by decide) rfl (Nat.le_of_ble_eq_true rfl) dX9_sells_8 [0, 1, 2, 3, 4, 5, 6, 7, 8, 9, 10, 11, 12] rfl (by decide) (fun _ => rfl) ⟨rfl, rfl⟩ (fun u2 hw => ?_)
  refine g_istore_n (lv' := [(3, .int u2), (2, .int u1), (0, .ref (A 0)), (1, .int p0)]) K dX9_sells_11 rfl (by rw [En]; decide) rfl ?_
  refine g_aload_n K 2 dX9_sells_12 rfl ?_
  refine g_get K (C := RX9) (T := TX9) (N := 22) 0 0 in_X9_sells_X9 (by decide +kernel) rfl rfl (by decide) rfl dX9_sells_13 ?_
  refine g_iload_n K 1 dX9_sells_16 rfl ?_
  refine g_iconst (v := 2) K dX9_sells_17 rfl ?_
  refine g_callSr (st' := fun u3 => [.int u3, .ref (A 1)]) K hR [.int u1, .int 2] [.ref (A 1)] (c_X9_contractAt X.2.1 (gxD X) cy sd u1 2 hw) gX9_sells_X9_contractAt rfl yok_X9_contractAt rfl (by decide) rfl (Nat.le_of_ble_eq_true rfl) dX9_sells_18 [] rfl (by decide) (fun _ => rfl) ⟨rfl, rfl⟩ (fun u3 hw => ?_)
  refine g_dup2_11 K dX9_sells_21 rfl rfl ?_
  refine g_iald K 1 0 rfl rfl hw.1 dX9_sells_22 ?_
  replace hw := hw.2
  refine g_iload_n K 0 dX9_sells_23 rfl ?_
  refine g_isub K dX9_sells_24 ?_
  refine g_iast (ws' := [((A 0), .inr (10, [.ref (A 1), .ref (A 2), .ref (A 3), .ref (A 4), .int mhasKept, .ref (A 5), .int mpasts, .ref (A 6), .int mreports, .int mthrown, .ref (A 7), .ref (A 8), .ref (A 9), .int mordering, .int mdetail, .ref (A 10), .int mlength, .int mspot, .int mnumber, .ref (A 11), .int mtolds, .ref (A 12)])), ((A 1), .inl (cy 0, 672, .inl (upd mg (u3).toNatClampNeg ((mg (u3).toNatClampNeg) - u2)))), ((A 2), .inl (cy 0, 672, .inl mkept)), ((A 3), .inl (cy 0, 672, .inl mspare)), ((A 4), .inl (cy 0, 672, .inl mtrial)), ((A 5), .inl (cy 0, 5376, .inl mpast)), ((A 6), .inl (cy 0, 6, .inl mreport)), ((A 7), .inl (cy 0, 5, .inl mpart)), ((A 8), .inl (cy 0, 5, .inl mcome)), ((A 9), .inl (cy 0, 60, .inl morder)), ((A 10), .inl (cy 0, 80, .inl mtext)), ((A 11), .inl (cy 0, 200, .inl mtold)), ((A 12), .inl (cy 0, 672, .inl mahead))]) K 1 0 rfl rfl hw.1 rfl dX9_sells_25 ?_
  replace hw := hw.2
  refine g_aload_n K 2 dX9_sells_26 rfl ?_
  refine g_get K (C := RX9) (T := TX9) (N := 22) 0 0 in_X9_sells_X9 (by decide +kernel) rfl rfl (by decide) rfl dX9_sells_27 ?_
  refine g_iload_n K 1 dX9_sells_30 rfl ?_
  refine g_iconst (v := 4) K dX9_sells_31 rfl ?_
  refine g_callSr (st' := fun u4 => [.int u4, .ref (A 1)]) K hR [.int u1, .int 4] [.ref (A 1)] (c_X9_contractAt X.2.1 (gxD X) cy sd u1 4 hw) gX9_sells_X9_contractAt rfl yok_X9_contractAt rfl (by decide) rfl (Nat.le_of_ble_eq_true rfl) dX9_sells_32 [] rfl (by decide) (fun _ => rfl) ⟨rfl, rfl⟩ (fun u4 hw => ?_)
  refine g_dup2_11 K dX9_sells_35 rfl rfl ?_
  refine g_iald K 1 0 rfl rfl hw.1 dX9_sells_36 ?_
  replace hw := hw.2
  refine g_iconst (v := 1) K dX9_sells_37 rfl ?_
  refine g_iadd K dX9_sells_38 ?_
  refine g_iast (ws' := [((A 0), .inr (10, [.ref (A 1), .ref (A 2), .ref (A 3), .ref (A 4), .int mhasKept, .ref (A 5), .int mpasts, .ref (A 6), .int mreports, .int mthrown, .ref (A 7), .ref (A 8), .ref (A 9), .int mordering, .int mdetail, .ref (A 10), .int mlength, .int mspot, .int mnumber, .ref (A 11), .int mtolds, .ref (A 12)])), ((A 1), .inl (cy 0, 672, .inl (upd (upd mg (u3).toNatClampNeg ((mg (u3).toNatClampNeg) - u2)) (u4).toNatClampNeg (((upd mg (u3).toNatClampNeg ((mg (u3).toNatClampNeg) - u2)) (u4).toNatClampNeg) + 1)))), ((A 2), .inl (cy 0, 672, .inl mkept)), ((A 3), .inl (cy 0, 672, .inl mspare)), ((A 4), .inl (cy 0, 672, .inl mtrial)), ((A 5), .inl (cy 0, 5376, .inl mpast)), ((A 6), .inl (cy 0, 6, .inl mreport)), ((A 7), .inl (cy 0, 5, .inl mpart)), ((A 8), .inl (cy 0, 5, .inl mcome)), ((A 9), .inl (cy 0, 60, .inl morder)), ((A 10), .inl (cy 0, 80, .inl mtext)), ((A 11), .inl (cy 0, 200, .inl mtold)), ((A 12), .inl (cy 0, 672, .inl mahead))]) K 1 0 rfl rfl hw.1 rfl dX9_sells_39 ?_
  replace hw := hw.2
  refine g_aload_n K 2 dX9_sells_40 rfl ?_
  refine g_get K (C := RX9) (T := TX9) (N := 22) 0 0 in_X9_sells_X9 (by decide +kernel) rfl rfl (by decide) rfl dX9_sells_41 ?_
  refine g_iconst (v := 5) K dX9_sells_44 rfl ?_
  refine g_dup2_11 K dX9_sells_45 rfl rfl ?_
  refine g_iald K 1 0 rfl rfl hw.1 dX9_sells_46 ?_
  replace hw := hw.2
  refine g_iload_n K 0 dX9_sells_47 rfl ?_
  refine g_aload_n K 2 dX9_sells_48 rfl ?_
  refine g_get K (C := RX9) (T := TX9) (N := 22) 0 0 in_X9_sells_X9 (by decide +kernel) rfl rfl (by decide) rfl dX9_sells_49 ?_
  refine g_iload_n K 1 dX9_sells_52 rfl ?_
  refine g_iconst (v := 3) K dX9_sells_53 rfl ?_
  refine g_callSr (st' := fun u5 => [.int u5, .ref (A 1), .int u2, .int ((upd (upd mg (u3).toNatClampNeg ((mg (u3).toNatClampNeg) - u2)) (u4).toNatClampNeg (((upd mg (u3).toNatClampNeg ((mg (u3).toNatClampNeg) - u2)) (u4).toNatClampNeg) + 1)) ((5 : Int32).toNatClampNeg)), .int 5, .ref (A 1)]) K hR [.int u1, .int 3] [.ref (A 1), .int u2, .int ((upd (upd mg (u3).toNatClampNeg ((mg (u3).toNatClampNeg) - u2)) (u4).toNatClampNeg (((upd mg (u3).toNatClampNeg ((mg (u3).toNatClampNeg) - u2)) (u4).toNatClampNeg) + 1)) ((5 : Int32).toNatClampNeg)), .int 5, .ref (A 1)] (c_X9_contractAt X.2.1 (gxD X) cy sd u1 3 hw) gX9_sells_X9_contractAt rfl yok_X9_contractAt rfl (by decide) rfl (Nat.le_of_ble_eq_true rfl) dX9_sells_54 [] rfl (by decide) (fun _ => rfl) ⟨rfl, rfl⟩ (fun u5 hw => ?_)
  refine g_iald K 1 0 rfl rfl hw.1 dX9_sells_57 ?_
  replace hw := hw.2
  refine g_imul K dX9_sells_58 ?_
  refine g_iadd K dX9_sells_59 ?_
  refine g_iast (ws' := [((A 0), .inr (10, [.ref (A 1), .ref (A 2), .ref (A 3), .ref (A 4), .int mhasKept, .ref (A 5), .int mpasts, .ref (A 6), .int mreports, .int mthrown, .ref (A 7), .ref (A 8), .ref (A 9), .int mordering, .int mdetail, .ref (A 10), .int mlength, .int mspot, .int mnumber, .ref (A 11), .int mtolds, .ref (A 12)])), ((A 1), .inl (cy 0, 672, .inl (upd (upd (upd mg (u3).toNatClampNeg ((mg (u3).toNatClampNeg) - u2)) (u4).toNatClampNeg (((upd mg (u3).toNatClampNeg ((mg (u3).toNatClampNeg) - u2)) (u4).toNatClampNeg) + 1)) ((5 : Int32).toNatClampNeg) (((upd (upd mg (u3).toNatClampNeg ((mg (u3).toNatClampNeg) - u2)) (u4).toNatClampNeg (((upd mg (u3).toNatClampNeg ((mg (u3).toNatClampNeg) - u2)) (u4).toNatClampNeg) + 1)) ((5 : Int32).toNatClampNeg)) + (u2 * ((upd (upd mg (u3).toNatClampNeg ((mg (u3).toNatClampNeg) - u2)) (u4).toNatClampNeg (((upd mg (u3).toNatClampNeg ((mg (u3).toNatClampNeg) - u2)) (u4).toNatClampNeg) + 1)) (u5).toNatClampNeg)))))), ((A 2), .inl (cy 0, 672, .inl mkept)), ((A 3), .inl (cy 0, 672, .inl mspare)), ((A 4), .inl (cy 0, 672, .inl mtrial)), ((A 5), .inl (cy 0, 5376, .inl mpast)), ((A 6), .inl (cy 0, 6, .inl mreport)), ((A 7), .inl (cy 0, 5, .inl mpart)), ((A 8), .inl (cy 0, 5, .inl mcome)), ((A 9), .inl (cy 0, 60, .inl morder)), ((A 10), .inl (cy 0, 80, .inl mtext)), ((A 11), .inl (cy 0, 200, .inl mtold)), ((A 12), .inl (cy 0, 672, .inl mahead))]) K 1 0 rfl rfl hw.1 rfl dX9_sells_60 ?_
  replace hw := hw.2
  refine g_aload_n K 2 dX9_sells_61 rfl ?_
  refine g_get K (C := RX9) (T := TX9) (N := 22) 0 0 in_X9_sells_X9 (by decide +kernel) rfl rfl (by decide) rfl dX9_sells_62 ?_
  refine g_iload_n K 3 dX9_sells_65 rfl ?_
  refine g_bipush (v := 7) K dX9_sells_66 rfl ?_
  refine g_callSr (st' := fun u6 => [.int u6, .ref (A 1)]) K hR [.int p0, .int 7] [.ref (A 1)] (c_X9_baleAt X.2.1 (gxD X) cy sd p0 7 hw) gX9_sells_X9_baleAt rfl yok_X9_baleAt rfl (by decide) rfl (Nat.le_of_ble_eq_true rfl) dX9_sells_68 [] rfl (by decide) (fun _ => rfl) ⟨rfl, rfl⟩ (fun u6 hw => ?_)
  refine g_iconst (v := 1) K dX9_sells_71 rfl ?_
  refine g_iast (ws' := [((A 0), .inr (10, [.ref (A 1), .ref (A 2), .ref (A 3), .ref (A 4), .int mhasKept, .ref (A 5), .int mpasts, .ref (A 6), .int mreports, .int mthrown, .ref (A 7), .ref (A 8), .ref (A 9), .int mordering, .int mdetail, .ref (A 10), .int mlength, .int mspot, .int mnumber, .ref (A 11), .int mtolds, .ref (A 12)])), ((A 1), .inl (cy 0, 672, .inl (upd (upd (upd (upd mg (u3).toNatClampNeg ((mg (u3).toNatClampNeg) - u2)) (u4).toNatClampNeg (((upd mg (u3).toNatClampNeg ((mg (u3).toNatClampNeg) - u2)) (u4).toNatClampNeg) + 1)) ((5 : Int32).toNatClampNeg) (((upd (upd mg (u3).toNatClampNeg ((mg (u3).toNatClampNeg) - u2)) (u4).toNatClampNeg (((upd mg (u3).toNatClampNeg ((mg (u3).toNatClampNeg) - u2)) (u4).toNatClampNeg) + 1)) ((5 : Int32).toNatClampNeg)) + (u2 * ((upd (upd mg (u3).toNatClampNeg ((mg (u3).toNatClampNeg) - u2)) (u4).toNatClampNeg (((upd mg (u3).toNatClampNeg ((mg (u3).toNatClampNeg) - u2)) (u4).toNatClampNeg) + 1)) (u5).toNatClampNeg)))) (u6).toNatClampNeg 1))), ((A 2), .inl (cy 0, 672, .inl mkept)), ((A 3), .inl (cy 0, 672, .inl mspare)), ((A 4), .inl (cy 0, 672, .inl mtrial)), ((A 5), .inl (cy 0, 5376, .inl mpast)), ((A 6), .inl (cy 0, 6, .inl mreport)), ((A 7), .inl (cy 0, 5, .inl mpart)), ((A 8), .inl (cy 0, 5, .inl mcome)), ((A 9), .inl (cy 0, 60, .inl morder)), ((A 10), .inl (cy 0, 80, .inl mtext)), ((A 11), .inl (cy 0, 200, .inl mtold)), ((A 12), .inl (cy 0, 672, .inl mahead))]) K 1 0 rfl rfl hw.1 rfl dX9_sells_72 ?_
  replace hw := hw.2
  refine g_aload_n K 2 dX9_sells_73 rfl ?_
  refine g_get K (C := RX9) (T := TX9) (N := 22) 0 0 in_X9_sells_X9 (by decide +kernel) rfl rfl (by decide) rfl dX9_sells_74 ?_
  refine g_iload_n K 3 dX9_sells_77 rfl ?_
  refine g_bipush (v := 8) K dX9_sells_78 rfl ?_
  refine g_callSr (st' := fun u7 => [.int u7, .ref (A 1)]) K hR [.int p0, .int 8] [.ref (A 1)] (c_X9_baleAt X.2.1 (gxD X) cy sd p0 8 hw) gX9_sells_X9_baleAt rfl yok_X9_baleAt rfl (by decide) rfl (Nat.le_of_ble_eq_true rfl) dX9_sells_80 [] rfl (by decide) (fun _ => rfl) ⟨rfl, rfl⟩ (fun u7 hw => ?_)
  refine g_iload_n K 1 dX9_sells_83 rfl ?_
  refine g_iast (ws' := [((A 0), .inr (10, [.ref (A 1), .ref (A 2), .ref (A 3), .ref (A 4), .int mhasKept, .ref (A 5), .int mpasts, .ref (A 6), .int mreports, .int mthrown, .ref (A 7), .ref (A 8), .ref (A 9), .int mordering, .int mdetail, .ref (A 10), .int mlength, .int mspot, .int mnumber, .ref (A 11), .int mtolds, .ref (A 12)])), ((A 1), .inl (cy 0, 672, .inl (upd (upd (upd (upd (upd mg (u3).toNatClampNeg ((mg (u3).toNatClampNeg) - u2)) (u4).toNatClampNeg (((upd mg (u3).toNatClampNeg ((mg (u3).toNatClampNeg) - u2)) (u4).toNatClampNeg) + 1)) ((5 : Int32).toNatClampNeg) (((upd (upd mg (u3).toNatClampNeg ((mg (u3).toNatClampNeg) - u2)) (u4).toNatClampNeg (((upd mg (u3).toNatClampNeg ((mg (u3).toNatClampNeg) - u2)) (u4).toNatClampNeg) + 1)) ((5 : Int32).toNatClampNeg)) + (u2 * ((upd (upd mg (u3).toNatClampNeg ((mg (u3).toNatClampNeg) - u2)) (u4).toNatClampNeg (((upd mg (u3).toNatClampNeg ((mg (u3).toNatClampNeg) - u2)) (u4).toNatClampNeg) + 1)) (u5).toNatClampNeg)))) (u6).toNatClampNeg 1) (u7).toNatClampNeg u1))), ((A 2), .inl (cy 0, 672, .inl mkept)), ((A 3), .inl (cy 0, 672, .inl mspare)), ((A 4), .inl (cy 0, 672, .inl mtrial)), ((A 5), .inl (cy 0, 5376, .inl mpast)), ((A 6), .inl (cy 0, 6, .inl mreport)), ((A 7), .inl (cy 0, 5, .inl mpart)), ((A 8), .inl (cy 0, 5, .inl mcome)), ((A 9), .inl (cy 0, 60, .inl morder)), ((A 10), .inl (cy 0, 80, .inl mtext)), ((A 11), .inl (cy 0, 200, .inl mtold)), ((A 12), .inl (cy 0, 672, .inl mahead))]) K 1 0 rfl rfl hw.1 rfl dX9_sells_84 ?_
  replace hw := hw.2
  refine g_iload_n K 1 dX9_sells_85 rfl ?_
  exact g_zret K E Er (u1, upd (upd (upd (upd (upd mg (u3).toNatClampNeg ((mg (u3).toNatClampNeg) - u2)) (u4).toNatClampNeg (((upd mg (u3).toNatClampNeg ((mg (u3).toNatClampNeg) - u2)) (u4).toNatClampNeg) + 1)) ((5 : Int32).toNatClampNeg) (((upd (upd mg (u3).toNatClampNeg ((mg (u3).toNatClampNeg) - u2)) (u4).toNatClampNeg (((upd mg (u3).toNatClampNeg ((mg (u3).toNatClampNeg) - u2)) (u4).toNatClampNeg) + 1)) ((5 : Int32).toNatClampNeg)) + (u2 * ((upd (upd mg (u3).toNatClampNeg ((mg (u3).toNatClampNeg) - u2)) (u4).toNatClampNeg (((upd mg (u3).toNatClampNeg ((mg (u3).toNatClampNeg) - u2)) (u4).toNatClampNeg) + 1)) (u5).toNatClampNeg)))) (u6).toNatClampNeg 1) (u7).toNatClampNeg u1) hw rfl rfl rfl (Nat.le_refl _) (Nat.le_refl _) dX9_sells_86

def wp_X9_reports (mreport : XRow) (p0 : Int32) (p1 : Int32) (p2 : Int32) (post : (Int32 × XRow) → Prop) : Prop := vp_in (2 * p0) 6 ∧ (vp_in ((2 * p0) + 1) 6 ∧ (∀ x1 : Int32, x1 = p0 + 1 → (post (x1, upd (upd mreport (2 * p0).toNatClampNeg p1) ((2 * p0) + 1).toNatClampNeg p2))))
theorem in_X9_reports_X9 : ∀ w ∈ u_ws RX9 TX9 22, w ∈ wsX9_reports := by decide +kernel
set_option maxRecDepth 100000 in
set_option maxHeartbeats 4000000 in
theorem c_X9_reports (l : Launch) (D : va_G) (cy : Nat → ClassId) (sd : xSd) (A : Nat → Nat) (mg : XRow) (mkept : XRow) (mspare : XRow) (mtrial : XRow) (mpast : XRow) (mreport : XRow) (mpart : XRow) (mcome : XRow) (morder : XRow) (mtext : XRow) (mtold : XRow) (mahead : XRow) (mhasKept : Int32) (mpasts : Int32) (mreports : Int32) (mthrown : Int32) (mordering : Int32) (mdetail : Int32) (mlength : Int32) (mspot : Int32) (mnumber : Int32) (mtolds : Int32) (p0 : Int32) (p1 : Int32) (p2 : Int32) {post : (Int32 × XRow) → Prop} (hw : wp_X9_reports mreport p0 p1 p2 post) : Ctr l D (xTys cy) sd yX9_reports wsX9_reports ({ frames := 0, cells := 0, slots := 0, locals := 0 } : Room) [.ref (A 0), .int p0, .int p1, .int p2] (fun u : Int32 × XRow => none) [((A 0), .inr (10, [.ref (A 1), .ref (A 2), .ref (A 3), .ref (A 4), .int mhasKept, .ref (A 5), .int mpasts, .ref (A 6), .int mreports, .int mthrown, .ref (A 7), .ref (A 8), .ref (A 9), .int mordering, .int mdetail, .ref (A 10), .int mlength, .int mspot, .int mnumber, .ref (A 11), .int mtolds, .ref (A 12)])), ((A 1), .inl (cy 0, 672, .inl mg)), ((A 2), .inl (cy 0, 672, .inl mkept)), ((A 3), .inl (cy 0, 672, .inl mspare)), ((A 4), .inl (cy 0, 672, .inl mtrial)), ((A 5), .inl (cy 0, 5376, .inl mpast)), ((A 6), .inl (cy 0, 6, .inl mreport)), ((A 7), .inl (cy 0, 5, .inl mpart)), ((A 8), .inl (cy 0, 5, .inl mcome)), ((A 9), .inl (cy 0, 60, .inl morder)), ((A 10), .inl (cy 0, 80, .inl mtext)), ((A 11), .inl (cy 0, 200, .inl mtold)), ((A 12), .inl (cy 0, 672, .inl mahead))] (fun u => [((A 0), .inr (10, [.ref (A 1), .ref (A 2), .ref (A 3), .ref (A 4), .int mhasKept, .ref (A 5), .int mpasts, .ref (A 6), .int u.1, .int mthrown, .ref (A 7), .ref (A 8), .ref (A 9), .int mordering, .int mdetail, .ref (A 10), .int mlength, .int mspot, .int mnumber, .ref (A 11), .int mtolds, .ref (A 12)])), ((A 1), .inl (cy 0, 672, .inl mg)), ((A 2), .inl (cy 0, 672, .inl mkept)), ((A 3), .inl (cy 0, 672, .inl mspare)), ((A 4), .inl (cy 0, 672, .inl mtrial)), ((A 5), .inl (cy 0, 5376, .inl mpast)), ((A 6), .inl (cy 0, 6, .inl u.2)), ((A 7), .inl (cy 0, 5, .inl mpart)), ((A 8), .inl (cy 0, 5, .inl mcome)), ((A 9), .inl (cy 0, 60, .inl morder)), ((A 10), .inl (cy 0, 80, .inl mtext)), ((A 11), .inl (cy 0, 200, .inl mtold)), ((A 12), .inl (cy 0, 672, .inl mahead))]) post := by
  refine Ctr.of (cc := cX9_reports) (maxL := 4) (ret := none) (lv0 := [(0, .ref (A 0)), (1, .int p0), (2, .int p1), (3, .int p2)]) (by decide) rfl (Nat.le_of_ble_eq_true rfl) rfl ?_
  intro X El hR Er Enm ED E En K
  have K : Cx X cX9_reports RX9 wsX9_reports (xTys cy) sd := K
  have E : X.2.2.2.2.2.2.2.2.2.2.1 = xMQ X (fun u : Int32 × XRow => none) post (fun u => [((A 0), .inr (10, [.ref (A 1), .ref (A 2), .ref (A 3), .ref (A 4), .int mhasKept, .ref (A 5), .int mpasts, .ref (A 6), .int u.1, .int mthrown, .ref (A 7), .ref (A 8), .ref (A 9), .int mordering, .int mdetail, .ref (A 10), .int mlength, .int mspot, .int mnumber, .ref (A 11), .int mtolds, .ref (A 12)])), ((A 1), .inl (cy 0, 672, .inl mg)), ((A 2), .inl (cy 0, 672, .inl mkept)), ((A 3), .inl (cy 0, 672, .inl mspare)), ((A 4), .inl (cy 0, 672, .inl mtrial)), ((A 5), .inl (cy 0, 5376, .inl mpast)), ((A 6), .inl (cy 0, 6, .inl u.2)), ((A 7), .inl (cy 0, 5, .inl mpart)), ((A 8), .inl (cy 0, 5, .inl mcome)), ((A 9), .inl (cy 0, 60, .inl morder)), ((A 10), .inl (cy 0, 80, .inl mtext)), ((A 11), .inl (cy 0, 200, .inl mtold)), ((A 12), .inl (cy 0, 672, .inl mahead))]) 0 0 := E
  unfold wp_X9_reports at hw
  refine g_aload_n K 0 dX9_reports_0 rfl ?_
  refine g_get K (C := RX9) (T := TX9) (N := 22) 0 7 in_X9_reports_X9 (by decide +kernel) rfl rfl (by decide) rfl dX9_reports_1 ?_
  refine g_iconst (v := 2) K dX9_reports_4 rfl ?_
  refine g_iload_n K 1 dX9_reports_5 rfl ?_
  refine g_imul K dX9_reports_6 ?_
  refine g_iload_n K 2 dX9_reports_7 rfl ?_
  refine g_iast (ws' := [((A 0), .inr (10, [.ref (A 1), .ref (A 2), .ref (A 3), .ref (A 4), .int mhasKept, .ref (A 5), .int mpasts, .ref (A 6), .int mreports, .int mthrown, .ref (A 7), .ref (A 8), .ref (A 9), .int mordering, .int mdetail, .ref (A 10), .int mlength, .int mspot, .int mnumber, .ref (A 11), .int mtolds, .ref (A 12)])), ((A 1), .inl (cy 0, 672, .inl mg)), ((A 2), .inl (cy 0, 672, .inl mkept)), ((A 3), .inl (cy 0, 672, .inl mspare)), ((A 4), .inl (cy 0, 672, .inl mtrial)), ((A 5), .inl (cy 0, 5376, .inl mpast)), ((A 6), .inl (cy 0, 6, .inl (upd mreport (2 * p0).toNatClampNeg p1))), ((A 7), .inl (cy 0, 5, .inl mpart)), ((A 8), .inl (cy 0, 5, .inl mcome)), ((A 9), .inl (cy 0, 60, .inl morder)), ((A 10), .inl (cy 0, 80, .inl mtext)), ((A 11), .inl (cy 0, 200, .inl mtold)), ((A 12), .inl (cy 0, 672, .inl mahead))]) K 6 0 rfl rfl hw.1 rfl dX9_reports_8 ?_
  replace hw := hw.2
  refine g_aload_n K 0 dX9_reports_9 rfl ?_
  refine g_get K (C := RX9) (T := TX9) (N := 22) 0 7 in_X9_reports_X9 (by decide +kernel) rfl rfl (by decide) rfl dX9_reports_10 ?_
  refine g_iconst (v := 2) K dX9_reports_13 rfl ?_
  refine g_iload_n K 1 dX9_reports_14 rfl ?_
  refine g_imul K dX9_reports_15 ?_
  refine g_iconst (v := 1) K dX9_reports_16 rfl ?_
  refine g_iadd K dX9_reports_17 ?_
  refine g_iload_n K 3 dX9_reports_18 rfl ?_
  refine g_iast (ws' := [((A 0), .inr (10, [.ref (A 1), .ref (A 2), .ref (A 3), .ref (A 4), .int mhasKept, .ref (A 5), .int mpasts, .ref (A 6), .int mreports, .int mthrown, .ref (A 7), .ref (A 8), .ref (A 9), .int mordering, .int mdetail, .ref (A 10), .int mlength, .int mspot, .int mnumber, .ref (A 11), .int mtolds, .ref (A 12)])), ((A 1), .inl (cy 0, 672, .inl mg)), ((A 2), .inl (cy 0, 672, .inl mkept)), ((A 3), .inl (cy 0, 672, .inl mspare)), ((A 4), .inl (cy 0, 672, .inl mtrial)), ((A 5), .inl (cy 0, 5376, .inl mpast)), ((A 6), .inl (cy 0, 6, .inl (upd (upd mreport (2 * p0).toNatClampNeg p1) ((2 * p0) + 1).toNatClampNeg p2))), ((A 7), .inl (cy 0, 5, .inl mpart)), ((A 8), .inl (cy 0, 5, .inl mcome)), ((A 9), .inl (cy 0, 60, .inl morder)), ((A 10), .inl (cy 0, 80, .inl mtext)), ((A 11), .inl (cy 0, 200, .inl mtold)), ((A 12), .inl (cy 0, 672, .inl mahead))]) K 6 0 rfl rfl hw.1 rfl dX9_reports_19 ?_
  replace hw := hw.2
  refine g_aload_n K 0 dX9_reports_20 rfl ?_
  refine g_iload_n K 1 dX9_reports_21 rfl ?_
  refine g_iconst (v := 1) K dX9_reports_22 rfl ?_
  refine g_iadd K dX9_reports_23 ?_
  refine g_topi (fun x1 ex1 => ?_)
  replace hw := hw x1 ex1
  refine g_put (ty := .int) (ws' := [((A 0), .inr (10, [.ref (A 1), .ref (A 2), .ref (A 3), .ref (A 4), .int mhasKept, .ref (A 5), .int mpasts, .ref (A 6), .int x1, .int mthrown, .ref (A 7), .ref (A 8), .ref (A 9), .int mordering, .int mdetail, .ref (A 10), .int mlength, .int mspot, .int mnumber, .ref (A 11), .int mtolds, .ref (A 12)])), ((A 1), .inl (cy 0, 672, .inl mg)), ((A 2), .inl (cy 0, 672, .inl mkept)), ((A 3), .inl (cy 0, 672, .inl mspare)), ((A 4), .inl (cy 0, 672, .inl mtrial)), ((A 5), .inl (cy 0, 5376, .inl mpast)), ((A 6), .inl (cy 0, 6, .inl (upd (upd mreport (2 * p0).toNatClampNeg p1) ((2 * p0) + 1).toNatClampNeg p2))), ((A 7), .inl (cy 0, 5, .inl mpart)), ((A 8), .inl (cy 0, 5, .inl mcome)), ((A 9), .inl (cy 0, 60, .inl morder)), ((A 10), .inl (cy 0, 80, .inl mtext)), ((A 11), .inl (cy 0, 200, .inl mtold)), ((A 12), .inl (cy 0, 672, .inl mahead))]) K (C := RX9) (T := TX9) (N := 22) 0 8 in_X9_reports_X9 tyX9 tyX9_ok nmX9 (by decide +kernel) rfl rfl (by decide) rfl (by decide +kernel) rfl rfl (Nat.le_of_ble_eq_true rfl) rfl dX9_reports_24 ?_
  exact g_vret K E Er (x1, upd (upd mreport (2 * p0).toNatClampNeg p1) ((2 * p0) + 1).toNatClampNeg p2) hw rfl rfl (Nat.le_refl _) (Nat.le_refl _) dX9_reports_27

def wp_X9_sell (mg : XRow) (mpast : XRow) (mreport : XRow) (mpasts : Int32) (mreports : Int32) (mdetail : Int32) (p0 : Int32) (post : (Int32 × Int32 × Int32 × Int32 × Int32 × XRow × XRow × XRow) → Prop) : Prop := wp_X9_isBale mg p0 (fun u1 : Bool => (u1 = true → (wp_X9_against mg mdetail p0 (fun u2 : Int32 × Int32 => (u2.1 ≤ 0 → (wp_X9_changes_o1 mg mpast mpasts (fun u3 : Int32 × XRow => wp_X9_sells mg p0 (fun u4 : Int32 × XRow => post (u4.1, u3.1, mreports, 0, u2.2, u4.2, u3.2, mreport))))) ∧ (¬ u2.1 ≤ 0 → (wp_X9_baleAt p0 5 (fun u5 : Int32 => vp_in u5 672 ∧ (wp_X9_reports mreport 0 p0 (mg (u5).toNatClampNeg) (fun u6 : Int32 × XRow => wp_X9_reports u6.2 1 u2.1 u2.2 (fun u7 : Int32 × XRow => wp_X9_fails 2 (fun u8 : Int32 × Int32 => post (u8.1, mpasts, u7.1, u8.2, u2.2, mg, mpast, u7.2))))))))))) ∧ (u1 = false → (post (0, mpasts, mreports, 1, mdetail, mg, mpast, mreport))))
theorem in_X9_sell_X9 : ∀ w ∈ u_ws RX9 TX9 22, w ∈ wsX9_sell := by decide +kernel
set_option maxRecDepth 100000 in
set_option maxHeartbeats 4000000 in
theorem c_X9_sell (l : Launch) (D : va_G) (cy : Nat → ClassId) (sd : xSd) (A : Nat → Nat) (mg : XRow) (mkept : XRow) (mspare : XRow) (mtrial : XRow) (mpast : XRow) (mreport : XRow) (mpart : XRow) (mcome : XRow) (morder : XRow) (mtext : XRow) (mtold : XRow) (mahead : XRow) (mhasKept : Int32) (mpasts : Int32) (mreports : Int32) (mthrown : Int32) (mordering : Int32) (mdetail : Int32) (mlength : Int32) (mspot : Int32) (mnumber : Int32) (mtolds : Int32) (p0 : Int32) {post : (Int32 × Int32 × Int32 × Int32 × Int32 × XRow × XRow × XRow) → Prop} (hw : wp_X9_sell mg mpast mreport mpasts mreports mdetail p0 post) : Ctr l D (xTys cy) sd yX9_sell wsX9_sell ({ frames := 6, cells := 0, slots := 0, locals := 135 } : Room) [.ref (A 0), .int p0] (fun u : Int32 × Int32 × Int32 × Int32 × Int32 × XRow × XRow × XRow => some (.int u.1)) [((A 0), .inr (10, [.ref (A 1), .ref (A 2), .ref (A 3), .ref (A 4), .int mhasKept, .ref (A 5), .int mpasts, .ref (A 6), .int mreports, .int mthrown, .ref (A 7), .ref (A 8), .ref (A 9), .int mordering, .int mdetail, .ref (A 10), .int mlength, .int mspot, .int mnumber, .ref (A 11), .int mtolds, .ref (A 12)])), ((A 1), .inl (cy 0, 672, .inl mg)), ((A 2), .inl (cy 0, 672, .inl mkept)), ((A 3), .inl (cy 0, 672, .inl mspare)), ((A 4), .inl (cy 0, 672, .inl mtrial)), ((A 5), .inl (cy 0, 5376, .inl mpast)), ((A 6), .inl (cy 0, 6, .inl mreport)), ((A 7), .inl (cy 0, 5, .inl mpart)), ((A 8), .inl (cy 0, 5, .inl mcome)), ((A 9), .inl (cy 0, 60, .inl morder)), ((A 10), .inl (cy 0, 80, .inl mtext)), ((A 11), .inl (cy 0, 200, .inl mtold)), ((A 12), .inl (cy 0, 672, .inl mahead))] (fun u => [((A 0), .inr (10, [.ref (A 1), .ref (A 2), .ref (A 3), .ref (A 4), .int mhasKept, .ref (A 5), .int u.2.1, .ref (A 6), .int u.2.2.1, .int u.2.2.2.1, .ref (A 7), .ref (A 8), .ref (A 9), .int mordering, .int u.2.2.2.2.1, .ref (A 10), .int mlength, .int mspot, .int mnumber, .ref (A 11), .int mtolds, .ref (A 12)])), ((A 1), .inl (cy 0, 672, .inl u.2.2.2.2.2.1)), ((A 2), .inl (cy 0, 672, .inl mkept)), ((A 3), .inl (cy 0, 672, .inl mspare)), ((A 4), .inl (cy 0, 672, .inl mtrial)), ((A 5), .inl (cy 0, 5376, .inl u.2.2.2.2.2.2.1)), ((A 6), .inl (cy 0, 6, .inl u.2.2.2.2.2.2.2)), ((A 7), .inl (cy 0, 5, .inl mpart)), ((A 8), .inl (cy 0, 5, .inl mcome)), ((A 9), .inl (cy 0, 60, .inl morder)), ((A 10), .inl (cy 0, 80, .inl mtext)), ((A 11), .inl (cy 0, 200, .inl mtold)), ((A 12), .inl (cy 0, 672, .inl mahead))]) post := by
  refine Ctr.of (cc := cX9_sell) (maxL := 3) (ret := (some .int)) (lv0 := [(0, .ref (A 0)), (1, .int p0)]) (by decide) rfl (Nat.le_of_ble_eq_true rfl) rfl ?_
  intro X El hR Er Enm ED E En K
  have K : Cx X cX9_sell RX9 wsX9_sell (xTys cy) sd := K
  have E : X.2.2.2.2.2.2.2.2.2.2.1 = xMQ X (fun u : Int32 × Int32 × Int32 × Int32 × Int32 × XRow × XRow × XRow => some (.int u.1)) post (fun u => [((A 0), .inr (10, [.ref (A 1), .ref (A 2), .ref (A 3), .ref (A 4), .int mhasKept, .ref (A 5), .int u.2.1, .ref (A 6), .int u.2.2.1, .int u.2.2.2.1, .ref (A 7), .ref (A 8), .ref (A 9), .int mordering, .int u.2.2.2.2.1, .ref (A 10), .int mlength, .int mspot, .int mnumber, .ref (A 11), .int mtolds, .ref (A 12)])), ((A 1), .inl (cy 0, 672, .inl u.2.2.2.2.2.1)), ((A 2), .inl (cy 0, 672, .inl mkept)), ((A 3), .inl (cy 0, 672, .inl mspare)), ((A 4), .inl (cy 0, 672, .inl mtrial)), ((A 5), .inl (cy 0, 5376, .inl u.2.2.2.2.2.2.1)), ((A 6), .inl (cy 0, 6, .inl u.2.2.2.2.2.2.2)), ((A 7), .inl (cy 0, 5, .inl mpart)), ((A 8), .inl (cy 0, 5, .inl mcome)), ((A 9), .inl (cy 0, 60, .inl morder)), ((A 10), .inl (cy 0, 80, .inl mtext)), ((A 11), .inl (cy 0, 200, .inl mtold)), ((A 12), .inl (cy 0, 672, .inl mahead))]) 0 0 := E
  unfold wp_X9_sell at hw
  refine g_aload_n K 0 dX9_sell_0 rfl ?_
  refine g_aload_n K 0 dX9_sell_1 rfl ?_
  refine g_iload_n K 1 dX9_sell_2 rfl ?_
  refine g_callVr (st' := fun u1 => [.int (bI u1), .ref (A 0)]) K hR [.int p0] [.ref (A 0)] 0 rfl rfl (c_X9_isBale X.2.1 (gxD X) cy sd A mg mkept mspare mtrial mpast mreport mpart mcome morder mtext mtold mahead mhasKept mpasts mreports mthrown mordering mdetail mlength mspot mnumber mtolds p0 hw) gX9_sell_X9_isBale rfl yok_X9_isBale rfl rfl (by decide) rfl (Nat.le_of_ble_eq_true rfl) dX9_sell_3 [0, 1, 2, 3, 4, 5, 6, 7, 8, 9, 10, 11, 12] rfl (by decide) (fun _ => rfl) ⟨rfl, rfl⟩ (fun u1 hw => ?_)
  refine g_ifb_eq (tgt := 13) K dX9_sell_6 (by decide) (fun hc => ?_) (fun hc => ?_)
  · replace hw := hw.2 hc
    refine g_iconst (v := 1) K dX9_sell_13 rfl ?_
    refine g_put (ty := .int) (ws' := [((A 0), .inr (10, [.ref (A 1), .ref (A 2), .ref (A 3), .ref (A 4), .int mhasKept, .ref (A 5), .int mpasts, .ref (A 6), .int mreports, .int 1, .ref (A 7), .ref (A 8), .ref (A 9), .int mordering, .int mdetail, .ref (A 10), .int mlength, .int mspot, .int mnumber, .ref (A 11), .int mtolds, .ref (A 12)])), ((A 1), .inl (cy 0, 672, .inl mg)), ((A 2), .inl (cy 0, 672, .inl mkept)), ((A 3), .inl (cy 0, 672, .inl mspare)), ((A 4), .inl (cy 0, 672, .inl mtrial)), ((A 5), .inl (cy 0, 5376, .inl mpast)), ((A 6), .inl (cy 0, 6, .inl mreport)), ((A 7), .inl (cy 0, 5, .inl mpart)), ((A 8), .inl (cy 0, 5, .inl mcome)), ((A 9), .inl (cy 0, 60, .inl morder)), ((A 10), .inl (cy 0, 80, .inl mtext)), ((A 11), .inl (cy 0, 200, .inl mtold)), ((A 12), .inl (cy 0, 672, .inl mahead))]) K (C := RX9) (T := TX9) (N := 22) 0 9 in_X9_sell_X9 tyX9 tyX9_ok nmX9 (by decide +kernel) rfl rfl (by decide) rfl (by decide +kernel) rfl rfl (Nat.le_of_ble_eq_true rfl) rfl dX9_sell_14 ?_
    refine g_aload_n K 0 dX9_sell_17 rfl ?_
    refine g_get K (C := RX9) (T := TX9) (N := 22) 0 9 in_X9_sell_X9 (by decide +kernel) rfl rfl (by decide) rfl dX9_sell_18 ?_
    refine g_if_le (tgt := 26) K dX9_sell_21 (by decide) (fun hc => absurd hc (by decide)) (fun _ => ?_)
    refine g_iconst (v := 0) K dX9_sell_24 rfl ?_
    exact g_zret K E Er (0, mpasts, mreports, 1, mdetail, mg, mpast, mreport) hw rfl rfl rfl (Nat.le_refl _) (Nat.le_refl _) dX9_sell_25
  · replace hw := hw.1 hc
    refine g_iconst (v := 0) K dX9_sell_9 rfl ?_
    refine g_goto (tgt := 14) K dX9_sell_10 (by decide) ?_
    refine g_put (ty := .int) (ws' := [((A 0), .inr (10, [.ref (A 1), .ref (A 2), .ref (A 3), .ref (A 4), .int mhasKept, .ref (A 5), .int mpasts, .ref (A 6), .int mreports, .int 0, .ref (A 7), .ref (A 8), .ref (A 9), .int mordering, .int mdetail, .ref (A 10), .int mlength, .int mspot, .int mnumber, .ref (A 11), .int mtolds, .ref (A 12)])), ((A 1), .inl (cy 0, 672, .inl mg)), ((A 2), .inl (cy 0, 672, .inl mkept)), ((A 3), .inl (cy 0, 672, .inl mspare)), ((A 4), .inl (cy 0, 672, .inl mtrial)), ((A 5), .inl (cy 0, 5376, .inl mpast)), ((A 6), .inl (cy 0, 6, .inl mreport)), ((A 7), .inl (cy 0, 5, .inl mpart)), ((A 8), .inl (cy 0, 5, .inl mcome)), ((A 9), .inl (cy 0, 60, .inl morder)), ((A 10), .inl (cy 0, 80, .inl mtext)), ((A 11), .inl (cy 0, 200, .inl mtold)), ((A 12), .inl (cy 0, 672, .inl mahead))]) K (C := RX9) (T := TX9) (N := 22) 0 9 in_X9_sell_X9 tyX9 tyX9_ok nmX9 (by decide +kernel) rfl rfl (by decide) rfl (by decide +kernel) rfl rfl (Nat.le_of_ble_eq_true rfl) rfl dX9_sell_14 ?_
    refine g_aload_n K 0 dX9_sell_17 rfl ?_
    refine g_get K (C := RX9) (T := TX9) (N := 22) 0 9 in_X9_sell_X9 (by decide +kernel) rfl rfl (by decide) rfl dX9_sell_18 ?_
    refine g_if_le (tgt := 26) K dX9_sell_21 (by decide) (fun _ => ?_) (fun hc => absurd (by decide) hc)
    refine g_aload_n K 0 dX9_sell_26 rfl ?_
    refine g_iload_n K 1 dX9_sell_27 rfl ?_
    refine g_callV (st' := fun u2 => [.int u2.1]) (ws' := fun u2 => [((A 0), .inr (10, [.ref (A 1), .ref (A 2), .ref (A 3), .ref (A 4), .int mhasKept, .ref (A 5), .int mpasts, .ref (A 6), .int mreports, .int 0, .ref (A 7), .ref (A 8), .ref (A 9), .int mordering, .int u2.2, .ref (A 10), .int mlength, .int mspot, .int mnumber, .ref (A 11), .int mtolds, .ref (A 12)])), ((A 1), .inl (cy 0, 672, .inl mg)), ((A 2), .inl (cy 0, 672, .inl mkept)), ((A 3), .inl (cy 0, 672, .inl mspare)), ((A 4), .inl (cy 0, 672, .inl mtrial)), ((A 5), .inl (cy 0, 5376, .inl mpast)), ((A 6), .inl (cy 0, 6, .inl mreport)), ((A 7), .inl (cy 0, 5, .inl mpart)), ((A 8), .inl (cy 0, 5, .inl mcome)), ((A 9), .inl (cy 0, 60, .inl morder)), ((A 10), .inl (cy 0, 80, .inl mtext)), ((A 11), .inl (cy 0, 200, .inl mtold)), ((A 12), .inl (cy 0, 672, .inl mahead))]) K hR [.int p0] [] 0 rfl rfl (c_X9_against X.2.1 (gxD X) cy sd A mg mkept mspare mtrial mpast mreport mpart mcome morder mtext mtold mahead mhasKept mpasts mreports 0 mordering mdetail mlength mspot mnumber mtolds p0 hw) gX9_sell_X9_against rfl yok_X9_against rfl rfl (by decide) rfl (Nat.le_of_ble_eq_true rfl) dX9_sell_28 [0, 1, 2, 3, 4, 5, 6, 7, 8, 9, 10, 11, 12] rfl (by decide) (fun _ => rfl) (fun _ => rfl) (fun _ => rfl) ⟨rfl, rfl⟩ (fun u2 hw => ?_)
    refine g_istore_n (lv' := [(2, .int u2.1), (0, .ref (A 0)), (1, .int p0)]) K dX9_sell_31 rfl (by rw [En]; decide) rfl ?_
    refine g_iload_n K 0 dX9_sell_32 rfl ?_
    refine g_if_le (tgt := 68) K dX9_sell_33 (by decide) (fun hc => ?_) (fun hc => ?_)
    · replace hw := hw.1 hc
      refine g_aload_n K 1 dX9_sell_68 rfl ?_
      refine g_aload_n K 1 dX9_sell_69 rfl ?_
      refine g_get K (C := RX9) (T := TX9) (N := 22) 0 0 in_X9_sell_X9 (by decide +kernel) rfl rfl (by decide) rfl dX9_sell_70 ?_
      refine g_callV (st' := fun u3 => []) (ws' := fun u3 => [((A 0), .inr (10, [.ref (A 1), .ref (A 2), .ref (A 3), .ref (A 4), .int mhasKept, .ref (A 5), .int u3.1, .ref (A 6), .int mreports, .int 0, .ref (A 7), .ref (A 8), .ref (A 9), .int mordering, .int u2.2, .ref (A 10), .int mlength, .int mspot, .int mnumber, .ref (A 11), .int mtolds, .ref (A 12)])), ((A 1), .inl (cy 0, 672, .inl mg)), ((A 2), .inl (cy 0, 672, .inl mkept)), ((A 3), .inl (cy 0, 672, .inl mspare)), ((A 4), .inl (cy 0, 672, .inl mtrial)), ((A 5), .inl (cy 0, 5376, .inl u3.2)), ((A 6), .inl (cy 0, 6, .inl mreport)), ((A 7), .inl (cy 0, 5, .inl mpart)), ((A 8), .inl (cy 0, 5, .inl mcome)), ((A 9), .inl (cy 0, 60, .inl morder)), ((A 10), .inl (cy 0, 80, .inl mtext)), ((A 11), .inl (cy 0, 200, .inl mtold)), ((A 12), .inl (cy 0, 672, .inl mahead))]) K hR [.ref (A 1)] [] 0 rfl rfl (c_X9_changes_o1 X.2.1 (gxD X) cy sd A mg mkept mspare mtrial mpast mreport mpart mcome morder mtext mtold mahead mhasKept mpasts mreports 0 mordering u2.2 mlength mspot mnumber mtolds hw) gX9_sell_X9_changes rfl yok_X9_changes rfl rfl (by decide) rfl (Nat.le_of_ble_eq_true rfl) dX9_sell_73 [0, 1, 2, 3, 4, 5, 6, 7, 8, 9, 10, 11, 12] rfl (by decide) (fun _ => rfl) (fun _ => rfl) (fun _ => rfl) ⟨rfl, rfl⟩ (fun u3 hw => ?_)
      refine g_aload_n K 1 dX9_sell_76 rfl ?_
      refine g_iload_n K 2 dX9_sell_77 rfl ?_
      refine g_callV (st' := fun u4 => [.int u4.1]) (ws' := fun u4 => [((A 0), .inr (10, [.ref (A 1), .ref (A 2), .ref (A 3), .ref (A 4), .int mhasKept, .ref (A 5), .int u3.1, .ref (A 6), .int mreports, .int 0, .ref (A 7), .ref (A 8), .ref (A 9), .int mordering, .int u2.2, .ref (A 10), .int mlength, .int mspot, .int mnumber, .ref (A 11), .int mtolds, .ref (A 12)])), ((A 1), .inl (cy 0, 672, .inl u4.2)), ((A 2), .inl (cy 0, 672, .inl mkept)), ((A 3), .inl (cy 0, 672, .inl mspare)), ((A 4), .inl (cy 0, 672, .inl mtrial)), ((A 5), .inl (cy 0, 5376, .inl u3.2)), ((A 6), .inl (cy 0, 6, .inl mreport)), ((A 7), .inl (cy 0, 5, .inl mpart)), ((A 8), .inl (cy 0, 5, .inl mcome)), ((A 9), .inl (cy 0, 60, .inl morder)), ((A 10), .inl (cy 0, 80, .inl mtext)), ((A 11), .inl (cy 0, 200, .inl mtold)), ((A 12), .inl (cy 0, 672, .inl mahead))]) K hR [.int p0] [] 0 rfl rfl (c_X9_sells X.2.1 (gxD X) cy sd A mg mkept mspare mtrial u3.2 mreport mpart mcome morder mtext mtold mahead mhasKept u3.1 mreports 0 mordering u2.2 mlength mspot mnumber mtolds p0 hw) gX9_sell_X9_sells rfl yok_X9_sells rfl rfl (by decide) rfl (Nat.le_of_ble_eq_true rfl) dX9_sell_78 [0, 1, 2, 3, 4, 5, 6, 7, 8, 9, 10, 11, 12] rfl (by decide) (fun _ => rfl) (fun _ => rfl) (fun _ => rfl) ⟨rfl, rfl⟩ (fun u4 hw => ?_)
      exact g_zret K E Er (u4.1, u3.1, mreports, 0, u2.2, u4.2, u3.2, mreport) hw rfl rfl rfl (Nat.le_refl _) (Nat.le_refl _) dX9_sell_81
    · replace hw := hw.2 hc
      refine g_aload_n K 1 dX9_sell_36 rfl ?_
      refine g_iconst (v := 0) K dX9_sell_37 rfl ?_
      refine g_iload_n K 2 dX9_sell_38 rfl ?_
      refine g_aload_n K 1 dX9_sell_39 rfl ?_
      refine g_get K (C := RX9) (T := TX9) (N := 22) 0 0 in_X9_sell_X9 (by decide +kernel) rfl rfl (by decide) rfl dX9_sell_40 ?_
      refine g_iload_n K 2 dX9_sell_43 rfl ?_
      refine g_iconst (v := 5) K dX9_sell_44 rfl ?_
      refine g_callSr (st' := fun u5 => [.int u5, .ref (A 1), .int p0, .int 0, .ref (A 0)]) K hR [.int p0, .int 5] [.ref (A 1), .int p0, .int 0, .ref (A 0)] (c_X9_baleAt X.2.1 (gxD X) cy sd p0 5 hw) gX9_sell_X9_baleAt rfl yok_X9_baleAt rfl (by decide) rfl (Nat.le_of_ble_eq_true rfl) dX9_sell_45 [] rfl (by decide) (fun _ => rfl) ⟨rfl, rfl⟩ (fun u5 hw => ?_)
      refine g_iald K 1 0 rfl rfl hw.1 dX9_sell_48 ?_
      replace hw := hw.2
      refine g_callV (st' := fun u6 => []) (ws' := fun u6 => [((A 0), .inr (10, [.ref (A 1), .ref (A 2), .ref (A 3), .ref (A 4), .int mhasKept, .ref (A 5), .int mpasts, .ref (A 6), .int u6.1, .int 0, .ref (A 7), .ref (A 8), .ref (A 9), .int mordering, .int u2.2, .ref (A 10), .int mlength, .int mspot, .int mnumber, .ref (A 11), .int mtolds, .ref (A 12)])), ((A 1), .inl (cy 0, 672, .inl mg)), ((A 2), .inl (cy 0, 672, .inl mkept)), ((A 3), .inl (cy 0, 672, .inl mspare)), ((A 4), .inl (cy 0, 672, .inl mtrial)), ((A 5), .inl (cy 0, 5376, .inl mpast)), ((A 6), .inl (cy 0, 6, .inl u6.2)), ((A 7), .inl (cy 0, 5, .inl mpart)), ((A 8), .inl (cy 0, 5, .inl mcome)), ((A 9), .inl (cy 0, 60, .inl morder)), ((A 10), .inl (cy 0, 80, .inl mtext)), ((A 11), .inl (cy 0, 200, .inl mtold)), ((A 12), .inl (cy 0, 672, .inl mahead))]) K hR [.int 0, .int p0, .int (mg (u5).toNatClampNeg)] [] 0 rfl rfl (c_X9_reports X.2.1 (gxD X) cy sd A mg mkept mspare mtrial mpast mreport mpart mcome morder mtext mtold mahead mhasKept mpasts mreports 0 mordering u2.2 mlength mspot mnumber mtolds 0 p0 (mg (u5).toNatClampNeg) hw) gX9_sell_X9_reports rfl yok_X9_reports rfl rfl (by decide) rfl (Nat.le_of_ble_eq_true rfl) dX9_sell_49 [0, 1, 2, 3, 4, 5, 6, 7, 8, 9, 10, 11, 12] rfl (by decide) (fun _ => rfl) (fun _ => rfl) (fun _ => rfl) ⟨rfl, rfl⟩ (fun u6 hw => ?_)
      refine g_aload_n K 1 dX9_sell_52 rfl ?_
      refine g_iconst (v := 1) K dX9_sell_53 rfl ?_
      refine g_iload_n K 0 dX9_sell_54 rfl ?_
      refine g_aload_n K 1 dX9_sell_55 rfl ?_
      refine g_get K (C := RX9) (T := TX9) (N := 22) 0 14 in_X9_sell_X9 (by decide +kernel) rfl rfl (by decide) rfl dX9_sell_56 ?_
      refine g_callV (st' := fun u7 => []) (ws' := fun u7 => [((A 0), .inr (10, [.ref (A 1), .ref (A 2), .ref (A 3), .ref (A 4), .int mhasKept, .ref (A 5), .int mpasts, .ref (A 6), .int u7.1, .int 0, .ref (A 7), .ref (A 8), .ref (A 9), .int mordering, .int u2.2, .ref (A 10), .int mlength, .int mspot, .int mnumber, .ref (A 11), .int mtolds, .ref (A 12)])), ((A 1), .inl (cy 0, 672, .inl mg)), ((A 2), .inl (cy 0, 672, .inl mkept)), ((A 3), .inl (cy 0, 672, .inl mspare)), ((A 4), .inl (cy 0, 672, .inl mtrial)), ((A 5), .inl (cy 0, 5376, .inl mpast)), ((A 6), .inl (cy 0, 6, .inl u7.2)), ((A 7), .inl (cy 0, 5, .inl mpart)), ((A 8), .inl (cy 0, 5, .inl mcome)), ((A 9), .inl (cy 0, 60, .inl morder)), ((A 10), .inl (cy 0, 80, .inl mtext)), ((A 11), .inl (cy 0, 200, .inl mtold)), ((A 12), .inl (cy 0, 672, .inl mahead))]) K hR [.int 1, .int u2.1, .int u2.2] [] 0 rfl rfl (c_X9_reports X.2.1 (gxD X) cy sd A mg mkept mspare mtrial mpast u6.2 mpart mcome morder mtext mtold mahead mhasKept mpasts u6.1 0 mordering u2.2 mlength mspot mnumber mtolds 1 u2.1 u2.2 hw) gX9_sell_X9_reports rfl yok_X9_reports rfl rfl (by decide) rfl (Nat.le_of_ble_eq_true rfl) dX9_sell_59 [0, 1, 2, 3, 4, 5, 6, 7, 8, 9, 10, 11, 12] rfl (by decide) (fun _ => rfl) (fun _ => rfl) (fun _ => rfl) ⟨rfl, rfl⟩ (fun u7 hw => ?_)
      refine g_aload_n K 1 dX9_sell_62 rfl ?_
      refine g_iconst (v := 2) K dX9_sell_63 rfl ?_
      refine g_callV (st' := fun u8 => [.int u8.1]) (ws' := fun u8 => [((A 0), .inr (10, [.ref (A 1), .ref (A 2), .ref (A 3), .ref (A 4), .int mhasKept, .ref (A 5), .int mpasts, .ref (A 6), .int u7.1, .int u8.2, .ref (A 7), .ref (A 8), .ref (A 9), .int mordering, .int u2.2, .ref (A 10), .int mlength, .int mspot, .int mnumber, .ref (A 11), .int mtolds, .ref (A 12)])), ((A 1), .inl (cy 0, 672, .inl mg)), ((A 2), .inl (cy 0, 672, .inl mkept)), ((A 3), .inl (cy 0, 672, .inl mspare)), ((A 4), .inl (cy 0, 672, .inl mtrial)), ((A 5), .inl (cy 0, 5376, .inl mpast)), ((A 6), .inl (cy 0, 6, .inl u7.2)), ((A 7), .inl (cy 0, 5, .inl mpart)), ((A 8), .inl (cy 0, 5, .inl mcome)), ((A 9), .inl (cy 0, 60, .inl morder)), ((A 10), .inl (cy 0, 80, .inl mtext)), ((A 11), .inl (cy 0, 200, .inl mtold)), ((A 12), .inl (cy 0, 672, .inl mahead))]) K hR [.int 2] [] 0 rfl rfl (c_X9_fails X.2.1 (gxD X) cy sd A mg mkept mspare mtrial mpast u7.2 mpart mcome morder mtext mtold mahead mhasKept mpasts u7.1 0 mordering u2.2 mlength mspot mnumber mtolds 2 hw) gX9_sell_X9_fails rfl yok_X9_fails rfl rfl (by decide) rfl (Nat.le_of_ble_eq_true rfl) dX9_sell_64 [0, 1, 2, 3, 4, 5, 6, 7, 8, 9, 10, 11, 12] rfl (by decide) (fun _ => rfl) (fun _ => rfl) (fun _ => rfl) ⟨rfl, rfl⟩ (fun u8 hw => ?_)
      exact g_zret K E Er (u8.1, mpasts, u7.1, u8.2, u2.2, mg, mpast, u7.2) hw rfl rfl rfl (Nat.le_refl _) (Nat.le_refl _) dX9_sell_67

def wp_X9_sellAll_L21 (u2 : Int32 × XRow) (k21_62 : Int32 → Int32 → XRow → Prop) : Nat → Int32 → Int32 → XRow → Prop
  | 0, _, _, _ => False
  | fu + 1, v3, v4, v5 => (u2.1 ≤ v3 → (k21_62 v3 v4 v5)) ∧ (¬ u2.1 ≤ v3 → (vp_in v3 60 ∧ (wp_X9_bestFor v5 (u2.2 (v3).toNatClampNeg) (fun u6 : Int32 => (u6 < 0 → (∀ x7 : Int32, x7 = v3 + 1 → (wp_X9_sellAll_L21 u2 k21_62 fu x7 v4 v5))) ∧ (¬ u6 < 0 → (vp_in v3 60 ∧ (wp_X9_sells v5 (u2.2 (v3).toNatClampNeg) (fun u8 : Int32 × XRow => ∀ x9 : Int32, x9 = v4 + 1 → (∀ x10 : Int32, x10 = v3 + 1 → (wp_X9_sellAll_L21 u2 k21_62 fu x10 x9 u8.2))))))))))
def wp_X9_sellAll (mg : XRow) (mpast : XRow) (morder : XRow) (mpasts : Int32) (post : (Int32 × Int32 × Int32 × Int32 × XRow × XRow × XRow) → Prop) : Prop := wp_X9_changes_o1 mg mpast mpasts (fun u1 : Int32 × XRow => wp_X9_orders mg morder (fun u2 : Int32 × XRow => ∃ fl, wp_X9_sellAll_L21 u2 (fun (v11 : Int32) (v12 : Int32) (v13 : XRow) => post (v12, u1.1, 0, u2.1, v13, u1.2, u2.2)) fl 0 0 mg))
theorem in_X9_sellAll_X9 : ∀ w ∈ u_ws RX9 TX9 22, w ∈ wsX9_sellAll := by decide +kernel
set_option maxRecDepth 100000 in
set_option maxHeartbeats 4000000 in
theorem c_X9_sellAll (l : Launch) (D : va_G) (cy : Nat → ClassId) (sd : xSd) (A : Nat → Nat) (mg : XRow) (mkept : XRow) (mspare : XRow) (mtrial : XRow) (mpast : XRow) (mreport : XRow) (mpart : XRow) (mcome : XRow) (morder : XRow) (mtext : XRow) (mtold : XRow) (mahead : XRow) (mhasKept : Int32) (mpasts : Int32) (mreports : Int32) (mthrown : Int32) (mordering : Int32) (mdetail : Int32) (mlength : Int32) (mspot : Int32) (mnumber : Int32) (mtolds : Int32) {post : (Int32 × Int32 × Int32 × Int32 × XRow × XRow × XRow) → Prop} (hw : wp_X9_sellAll mg mpast morder mpasts post) : Ctr l D (xTys cy) sd yX9_sellAll wsX9_sellAll ({ frames := 6, cells := 0, slots := 0, locals := 133 } : Room) [.ref (A 0)] (fun u : Int32 × Int32 × Int32 × Int32 × XRow × XRow × XRow => some (.int u.1)) [((A 0), .inr (10, [.ref (A 1), .ref (A 2), .ref (A 3), .ref (A 4), .int mhasKept, .ref (A 5), .int mpasts, .ref (A 6), .int mreports, .int mthrown, .ref (A 7), .ref (A 8), .ref (A 9), .int mordering, .int mdetail, .ref (A 10), .int mlength, .int mspot, .int mnumber, .ref (A 11), .int mtolds, .ref (A 12)])), ((A 1), .inl (cy 0, 672, .inl mg)), ((A 2), .inl (cy 0, 672, .inl mkept)), ((A 3), .inl (cy 0, 672, .inl mspare)), ((A 4), .inl (cy 0, 672, .inl mtrial)), ((A 5), .inl (cy 0, 5376, .inl mpast)), ((A 6), .inl (cy 0, 6, .inl mreport)), ((A 7), .inl (cy 0, 5, .inl mpart)), ((A 8), .inl (cy 0, 5, .inl mcome)), ((A 9), .inl (cy 0, 60, .inl morder)), ((A 10), .inl (cy 0, 80, .inl mtext)), ((A 11), .inl (cy 0, 200, .inl mtold)), ((A 12), .inl (cy 0, 672, .inl mahead))] (fun u => [((A 0), .inr (10, [.ref (A 1), .ref (A 2), .ref (A 3), .ref (A 4), .int mhasKept, .ref (A 5), .int u.2.1, .ref (A 6), .int mreports, .int u.2.2.1, .ref (A 7), .ref (A 8), .ref (A 9), .int u.2.2.2.1, .int mdetail, .ref (A 10), .int mlength, .int mspot, .int mnumber, .ref (A 11), .int mtolds, .ref (A 12)])), ((A 1), .inl (cy 0, 672, .inl u.2.2.2.2.1)), ((A 2), .inl (cy 0, 672, .inl mkept)), ((A 3), .inl (cy 0, 672, .inl mspare)), ((A 4), .inl (cy 0, 672, .inl mtrial)), ((A 5), .inl (cy 0, 5376, .inl u.2.2.2.2.2.1)), ((A 6), .inl (cy 0, 6, .inl mreport)), ((A 7), .inl (cy 0, 5, .inl mpart)), ((A 8), .inl (cy 0, 5, .inl mcome)), ((A 9), .inl (cy 0, 60, .inl u.2.2.2.2.2.2)), ((A 10), .inl (cy 0, 80, .inl mtext)), ((A 11), .inl (cy 0, 200, .inl mtold)), ((A 12), .inl (cy 0, 672, .inl mahead))]) post := by
  refine Ctr.of (cc := cX9_sellAll) (maxL := 3) (ret := (some .int)) (lv0 := [(0, .ref (A 0))]) (by decide) rfl (Nat.le_of_ble_eq_true rfl) rfl ?_
  intro X El hR Er Enm ED E En K
  have K : Cx X cX9_sellAll RX9 wsX9_sellAll (xTys cy) sd := K
  have E : X.2.2.2.2.2.2.2.2.2.2.1 = xMQ X (fun u : Int32 × Int32 × Int32 × Int32 × XRow × XRow × XRow => some (.int u.1)) post (fun u => [((A 0), .inr (10, [.ref (A 1), .ref (A 2), .ref (A 3), .ref (A 4), .int mhasKept, .ref (A 5), .int u.2.1, .ref (A 6), .int mreports, .int u.2.2.1, .ref (A 7), .ref (A 8), .ref (A 9), .int u.2.2.2.1, .int mdetail, .ref (A 10), .int mlength, .int mspot, .int mnumber, .ref (A 11), .int mtolds, .ref (A 12)])), ((A 1), .inl (cy 0, 672, .inl u.2.2.2.2.1)), ((A 2), .inl (cy 0, 672, .inl mkept)), ((A 3), .inl (cy 0, 672, .inl mspare)), ((A 4), .inl (cy 0, 672, .inl mtrial)), ((A 5), .inl (cy 0, 5376, .inl u.2.2.2.2.2.1)), ((A 6), .inl (cy 0, 6, .inl mreport)), ((A 7), .inl (cy 0, 5, .inl mpart)), ((A 8), .inl (cy 0, 5, .inl mcome)), ((A 9), .inl (cy 0, 60, .inl u.2.2.2.2.2.2)), ((A 10), .inl (cy 0, 80, .inl mtext)), ((A 11), .inl (cy 0, 200, .inl mtold)), ((A 12), .inl (cy 0, 672, .inl mahead))]) 0 0 := E
  unfold wp_X9_sellAll at hw
  refine g_aload_n K 0 dX9_sellAll_0 rfl ?_
  refine g_iconst (v := 0) K dX9_sellAll_1 rfl ?_
  refine g_put (ty := .int) (ws' := [((A 0), .inr (10, [.ref (A 1), .ref (A 2), .ref (A 3), .ref (A 4), .int mhasKept, .ref (A 5), .int mpasts, .ref (A 6), .int mreports, .int 0, .ref (A 7), .ref (A 8), .ref (A 9), .int mordering, .int mdetail, .ref (A 10), .int mlength, .int mspot, .int mnumber, .ref (A 11), .int mtolds, .ref (A 12)])), ((A 1), .inl (cy 0, 672, .inl mg)), ((A 2), .inl (cy 0, 672, .inl mkept)), ((A 3), .inl (cy 0, 672, .inl mspare)), ((A 4), .inl (cy 0, 672, .inl mtrial)), ((A 5), .inl (cy 0, 5376, .inl mpast)), ((A 6), .inl (cy 0, 6, .inl mreport)), ((A 7), .inl (cy 0, 5, .inl mpart)), ((A 8), .inl (cy 0, 5, .inl mcome)), ((A 9), .inl (cy 0, 60, .inl morder)), ((A 10), .inl (cy 0, 80, .inl mtext)), ((A 11), .inl (cy 0, 200, .inl mtold)), ((A 12), .inl (cy 0, 672, .inl mahead))]) K (C := RX9) (T := TX9) (N := 22) 0 9 in_X9_sellAll_X9 tyX9 tyX9_ok nmX9 (by decide +kernel) rfl rfl (by decide) rfl (by decide +kernel) rfl rfl (Nat.le_of_ble_eq_true rfl) rfl dX9_sellAll_2 ?_
  refine g_aload_n K 0 dX9_sellAll_5 rfl ?_
  refine g_aload_n K 0 dX9_sellAll_6 rfl ?_
  refine g_get K (C := RX9) (T := TX9) (N := 22) 0 0 in_X9_sellAll_X9 (by decide +kernel) rfl rfl (by decide) rfl dX9_sellAll_7 ?_
  refine g_callV (st' := fun u1 => []) (ws' := fun u1 => [((A 0), .inr (10, [.ref (A 1), .ref (A 2), .ref (A 3), .ref (A 4), .int mhasKept, .ref (A 5), .int u1.1, .ref (A 6), .int mreports, .int 0, .ref (A 7), .ref (A 8), .ref (A 9), .int mordering, .int mdetail, .ref (A 10), .int mlength, .int mspot, .int mnumber, .ref (A 11), .int mtolds, .ref (A 12)])), ((A 1), .inl (cy 0, 672, .inl mg)), ((A 2), .inl (cy 0, 672, .inl mkept)), ((A 3), .inl (cy 0, 672, .inl mspare)), ((A 4), .inl (cy 0, 672, .inl mtrial)), ((A 5), .inl (cy 0, 5376, .inl u1.2)), ((A 6), .inl (cy 0, 6, .inl mreport)), ((A 7), .inl (cy 0, 5, .inl mpart)), ((A 8), .inl (cy 0, 5, .inl mcome)), ((A 9), .inl (cy 0, 60, .inl morder)), ((A 10), .inl (cy 0, 80, .inl mtext)), ((A 11), .inl (cy 0, 200, .inl mtold)), ((A 12), .inl (cy 0, 672, .inl mahead))]) K hR [.ref (A 1)] [] 0 rfl rfl (c_X9_changes_o1 X.2.1 (gxD X) cy sd A mg mkept mspare mtrial mpast mreport mpart mcome morder mtext mtold mahead mhasKept mpasts mreports 0 mordering mdetail mlength mspot mnumber mtolds hw) gX9_sellAll_X9_changes rfl yok_X9_changes rfl rfl (by decide) rfl (Nat.le_of_ble_eq_true rfl) dX9_sellAll_10 [0, 1, 2, 3, 4, 5, 6, 7, 8, 9, 10, 11, 12] rfl (by decide) (fun _ => rfl) (fun _ => rfl) (fun _ => rfl) ⟨rfl, rfl⟩ (fun u1 hw => ?_)
  refine g_aload_n K 0 dX9_sellAll_13 rfl ?_
  refine g_callV (st' := fun u2 => []) (ws' := fun u2 => [((A 0), .inr (10, [.ref (A 1), .ref (A 2), .ref (A 3), .ref (A 4), .int mhasKept, .ref (A 5), .int u1.1, .ref (A 6), .int mreports, .int 0, .ref (A 7), .ref (A 8), .ref (A 9), .int u2.1, .int mdetail, .ref (A 10), .int mlength, .int mspot, .int mnumber, .ref (A 11), .int mtolds, .ref (A 12)])), ((A 1), .inl (cy 0, 672, .inl mg)), ((A 2), .inl (cy 0, 672, .inl mkept)), ((A 3), .inl (cy 0, 672, .inl mspare)), ((A 4), .inl (cy 0, 672, .inl mtrial)), ((A 5), .inl (cy 0, 5376, .inl u1.2)), ((A 6), .inl (cy 0, 6, .inl mreport)), ((A 7), .inl (cy 0, 5, .inl mpart)), ((A 8), .inl (cy 0, 5, .inl mcome)), ((A 9), .inl (cy 0, 60, .inl u2.2)), ((A 10), .inl (cy 0, 80, .inl mtext)), ((A 11), .inl (cy 0, 200, .inl mtold)), ((A 12), .inl (cy 0, 672, .inl mahead))]) K hR [] [] 0 rfl rfl (c_X9_orders X.2.1 (gxD X) cy sd A mg mkept mspare mtrial u1.2 mreport mpart mcome morder mtext mtold mahead mhasKept u1.1 mreports 0 mordering mdetail mlength mspot mnumber mtolds hw) gX9_sellAll_X9_orders rfl yok_X9_orders rfl rfl (by decide) rfl (Nat.le_of_ble_eq_true rfl) dX9_sellAll_14 [0, 1, 2, 3, 4, 5, 6, 7, 8, 9, 10, 11, 12] rfl (by decide) (fun _ => rfl) (fun _ => rfl) (fun _ => rfl) ⟨rfl, rfl⟩ (fun u2 hw => ?_)
  refine g_iconst (v := 0) K dX9_sellAll_17 rfl ?_
  refine g_istore_n (lv' := [(1, .int 0), (0, .ref (A 0))]) K dX9_sellAll_18 rfl (by rw [En]; decide) rfl ?_
  refine g_iconst (v := 0) K dX9_sellAll_19 rfl ?_
  refine g_istore_n (lv' := [(2, .int 0), (1, .int 0), (0, .ref (A 0))]) K dX9_sellAll_20 rfl (by rw [En]; decide) rfl ?_
  obtain ⟨fl, hw⟩ := hw
  have key : ∀ (k21_62 : Int32 → Int32 → XRow → Prop), (∀ (v3 : Int32) (v4 : Int32) (v5 : XRow), k21_62 v3 v4 v5 → Gx X 0 0 [((A 0), .inr (10, [.ref (A 1), .ref (A 2), .ref (A 3), .ref (A 4), .int mhasKept, .ref (A 5), .int u1.1, .ref (A 6), .int mreports, .int 0, .ref (A 7), .ref (A 8), .ref (A 9), .int u2.1, .int mdetail, .ref (A 10), .int mlength, .int mspot, .int mnumber, .ref (A 11), .int mtolds, .ref (A 12)])), ((A 1), .inl (cy 0, 672, .inl v5)), ((A 2), .inl (cy 0, 672, .inl mkept)), ((A 3), .inl (cy 0, 672, .inl mspare)), ((A 4), .inl (cy 0, 672, .inl mtrial)), ((A 5), .inl (cy 0, 5376, .inl u1.2)), ((A 6), .inl (cy 0, 6, .inl mreport)), ((A 7), .inl (cy 0, 5, .inl mpart)), ((A 8), .inl (cy 0, 5, .inl mcome)), ((A 9), .inl (cy 0, 60, .inl u2.2)), ((A 10), .inl (cy 0, 80, .inl mtext)), ((A 11), .inl (cy 0, 200, .inl mtold)), ((A 12), .inl (cy 0, 672, .inl mahead))] [(2, .int v3), (1, .int v4), (0, .ref (A 0))] 62 []) → ∀ (n : Nat) (v3 : Int32) (v4 : Int32) (v5 : XRow), wp_X9_sellAll_L21 u2 k21_62 n v3 v4 v5 → Gx X 0 0 [((A 0), .inr (10, [.ref (A 1), .ref (A 2), .ref (A 3), .ref (A 4), .int mhasKept, .ref (A 5), .int u1.1, .ref (A 6), .int mreports, .int 0, .ref (A 7), .ref (A 8), .ref (A 9), .int u2.1, .int mdetail, .ref (A 10), .int mlength, .int mspot, .int mnumber, .ref (A 11), .int mtolds, .ref (A 12)])), ((A 1), .inl (cy 0, 672, .inl v5)), ((A 2), .inl (cy 0, 672, .inl mkept)), ((A 3), .inl (cy 0, 672, .inl mspare)), ((A 4), .inl (cy 0, 672, .inl mtrial)), ((A 5), .inl (cy 0, 5376, .inl u1.2)), ((A 6), .inl (cy 0, 6, .inl mreport)), ((A 7), .inl (cy 0, 5, .inl mpart)), ((A 8), .inl (cy 0, 5, .inl mcome)), ((A 9), .inl (cy 0, 60, .inl u2.2)), ((A 10), .inl (cy 0, 80, .inl mtext)), ((A 11), .inl (cy 0, 200, .inl mtold)), ((A 12), .inl (cy 0, 672, .inl mahead))] [(2, .int v3), (1, .int v4), (0, .ref (A 0))] 21 [] := by
    intro k21_62 hx62 n
    induction n with
    | zero => intro v3 v4 v5 hw; exact hw.elim
    | succ n ih =>
      intro v3 v4 v5 hw
      refine g_iload_n K 0 dX9_sellAll_21 rfl ?_
      refine g_aload_n K 2 dX9_sellAll_22 rfl ?_
      refine g_get K (C := RX9) (T := TX9) (N := 22) 0 13 in_X9_sellAll_X9 (by decide +kernel) rfl rfl (by decide) rfl dX9_sellAll_23 ?_
      refine g_icmp_ge (tgt := 62) K dX9_sellAll_26 (by decide) (fun hc => ?_) (fun hc => ?_)
      · replace hw := hw.1 hc
        exact hx62 _ _ _ hw
      · replace hw := hw.2 hc
        refine g_aload_n K 2 dX9_sellAll_29 rfl ?_
        refine g_aload_n K 2 dX9_sellAll_30 rfl ?_
        refine g_get K (C := RX9) (T := TX9) (N := 22) 0 12 in_X9_sellAll_X9 (by decide +kernel) rfl rfl (by decide) rfl dX9_sellAll_31 ?_
        refine g_iload_n K 0 dX9_sellAll_34 rfl ?_
        refine g_iald K 9 0 rfl rfl hw.1 dX9_sellAll_35 ?_
        replace hw := hw.2
        refine g_callVr (st' := fun u6 => [.int u6]) K hR [.int (u2.2 (v3).toNatClampNeg)] [] 0 rfl rfl (c_X9_bestFor X.2.1 (gxD X) cy sd A v5 mkept mspare mtrial u1.2 mreport mpart mcome u2.2 mtext mtold mahead mhasKept u1.1 mreports 0 u2.1 mdetail mlength mspot mnumber mtolds (u2.2 (v3).toNatClampNeg) hw) gX9_sellAll_X9_bestFor rfl yok_X9_bestFor rfl rfl (by decide) rfl (Nat.le_of_ble_eq_true rfl) dX9_sellAll_36 [0, 1, 2, 3, 4, 5, 6, 7, 8, 9, 10, 11, 12] rfl (by decide) (fun _ => rfl) ⟨rfl, rfl⟩ (fun u6 hw => ?_)
        refine g_if_lt (tgt := 56) K dX9_sellAll_39 (by decide) (fun hc => ?_) (fun hc => ?_)
        · replace hw := hw.1 hc
          obtain ⟨x7, ex7⟩ : ∃ z : Int32, z = v3 + 1 := ⟨_, rfl⟩
          replace hw := hw x7 ex7
          refine g_iinc (v := x7) (lv' := [(2, .int x7), (1, .int v4), (0, .ref (A 0))]) K 0 dX9_sellAll_56 rfl (by rw [ex7]; rfl) (by rw [En]; decide) rfl ?_
          refine g_goto (tgt := 21) K dX9_sellAll_59 (by decide) ?_
          exact ih _ _ _ hw
        · replace hw := hw.2 hc
          refine g_aload_n K 2 dX9_sellAll_42 rfl ?_
          refine g_aload_n K 2 dX9_sellAll_43 rfl ?_
          refine g_get K (C := RX9) (T := TX9) (N := 22) 0 12 in_X9_sellAll_X9 (by decide +kernel) rfl rfl (by decide) rfl dX9_sellAll_44 ?_
          refine g_iload_n K 0 dX9_sellAll_47 rfl ?_
          refine g_iald K 9 0 rfl rfl hw.1 dX9_sellAll_48 ?_
          replace hw := hw.2
          refine g_callV (st' := fun u8 => [.int u8.1]) (ws' := fun u8 => [((A 0), .inr (10, [.ref (A 1), .ref (A 2), .ref (A 3), .ref (A 4), .int mhasKept, .ref (A 5), .int u1.1, .ref (A 6), .int mreports, .int 0, .ref (A 7), .ref (A 8), .ref (A 9), .int u2.1, .int mdetail, .ref (A 10), .int mlength, .int mspot, .int mnumber, .ref (A 11), .int mtolds, .ref (A 12)])), ((A 1), .inl (cy 0, 672, .inl u8.2)), ((A 2), .inl (cy 0, 672, .inl mkept)), ((A 3), .inl (cy 0, 672, .inl mspare)), ((A 4), .inl (cy 0, 672, .inl mtrial)), ((A 5), .inl (cy 0, 5376, .inl u1.2)), ((A 6), .inl (cy 0, 6, .inl mreport)), ((A 7), .inl (cy 0, 5, .inl mpart)), ((A 8), .inl (cy 0, 5, .inl mcome)), ((A 9), .inl (cy 0, 60, .inl u2.2)), ((A 10), .inl (cy 0, 80, .inl mtext)), ((A 11), .inl (cy 0, 200, .inl mtold)), ((A 12), .inl (cy 0, 672, .inl mahead))]) K hR [.int (u2.2 (v3).toNatClampNeg)] [] 0 rfl rfl (c_X9_sells X.2.1 (gxD X) cy sd A v5 mkept mspare mtrial u1.2 mreport mpart mcome u2.2 mtext mtold mahead mhasKept u1.1 mreports 0 u2.1 mdetail mlength mspot mnumber mtolds (u2.2 (v3).toNatClampNeg) hw) gX9_sellAll_X9_sells rfl yok_X9_sells rfl rfl (by decide) rfl (Nat.le_of_ble_eq_true rfl) dX9_sellAll_49 [0, 1, 2, 3, 4, 5, 6, 7, 8, 9, 10, 11, 12] rfl (by decide) (fun _ => rfl) (fun _ => rfl) (fun _ => rfl) ⟨rfl, rfl⟩ (fun u8 hw => ?_)
          refine g_pop K dX9_sellAll_52 rfl ?_
          obtain ⟨x9, ex9⟩ : ∃ z : Int32, z = v4 + 1 := ⟨_, rfl⟩
          replace hw := hw x9 ex9
          refine g_iinc (v := x9) (lv' := [(1, .int x9), (2, .int v3), (0, .ref (A 0))]) K 1 dX9_sellAll_53 rfl (by rw [ex9]; rfl) (by rw [En]; decide) rfl ?_
          obtain ⟨x10, ex10⟩ : ∃ z : Int32, z = v3 + 1 := ⟨_, rfl⟩
          replace hw := hw x10 ex10
          refine g_iinc (v := x10) (lv' := [(2, .int x10), (1, .int x9), (0, .ref (A 0))]) K 1 dX9_sellAll_56 rfl (by rw [ex10]; rfl) (by rw [En]; decide) rfl ?_
          refine g_goto (tgt := 21) K dX9_sellAll_59 (by decide) ?_
          exact ih _ _ _ hw
  refine key _ (fun v11 v12 v13 hw => ?_) fl _ _ _ hw
  refine g_iload_n K 1 dX9_sellAll_62 rfl ?_
  exact g_zret K E Er (v12, u1.1, 0, u2.1, v13, u1.2, u2.2) hw rfl rfl rfl (Nat.le_refl _) (Nat.le_refl _) dX9_sellAll_63

def wp_X9_wouldSell (mg : XRow) (mdetail : Int32) (p0 : Int32) (post : (Int32 × Int32 × Int32) → Prop) : Prop := wp_X9_isBale mg p0 (fun u1 : Bool => (u1 = true → (wp_X9_against mg mdetail p0 (fun u2 : Int32 × Int32 => (u2.1 ≤ 0 → (wp_X9_bestFor mg p0 (fun u3 : Int32 => post (u3, 0, u2.2)))) ∧ (¬ u2.1 ≤ 0 → (post (0, 2, u2.2)))))) ∧ (u1 = false → (post (0, 1, mdetail))))
theorem in_X9_wouldSell_X9 : ∀ w ∈ u_ws RX9 TX9 22, w ∈ wsX9_wouldSell := by decide +kernel
set_option maxRecDepth 100000 in
set_option maxHeartbeats 4000000 in
theorem c_X9_wouldSell (l : Launch) (D : va_G) (cy : Nat → ClassId) (sd : xSd) (A : Nat → Nat) (mg : XRow) (mkept : XRow) (mspare : XRow) (mtrial : XRow) (mpast : XRow) (mreport : XRow) (mpart : XRow) (mcome : XRow) (morder : XRow) (mtext : XRow) (mtold : XRow) (mahead : XRow) (mhasKept : Int32) (mpasts : Int32) (mreports : Int32) (mthrown : Int32) (mordering : Int32) (mdetail : Int32) (mlength : Int32) (mspot : Int32) (mnumber : Int32) (mtolds : Int32) (p0 : Int32) {post : (Int32 × Int32 × Int32) → Prop} (hw : wp_X9_wouldSell mg mdetail p0 post) : Ctr l D (xTys cy) sd yX9_wouldSell wsX9_wouldSell ({ frames := 6, cells := 0, slots := 0, locals := 135 } : Room) [.ref (A 0), .int p0] (fun u : Int32 × Int32 × Int32 => some (.int u.1)) [((A 0), .inr (10, [.ref (A 1), .ref (A 2), .ref (A 3), .ref (A 4), .int mhasKept, .ref (A 5), .int mpasts, .ref (A 6), .int mreports, .int mthrown, .ref (A 7), .ref (A 8), .ref (A 9), .int mordering, .int mdetail, .ref (A 10), .int mlength, .int mspot, .int mnumber, .ref (A 11), .int mtolds, .ref (A 12)])), ((A 1), .inl (cy 0, 672, .inl mg)), ((A 2), .inl (cy 0, 672, .inl mkept)), ((A 3), .inl (cy 0, 672, .inl mspare)), ((A 4), .inl (cy 0, 672, .inl mtrial)), ((A 5), .inl (cy 0, 5376, .inl mpast)), ((A 6), .inl (cy 0, 6, .inl mreport)), ((A 7), .inl (cy 0, 5, .inl mpart)), ((A 8), .inl (cy 0, 5, .inl mcome)), ((A 9), .inl (cy 0, 60, .inl morder)), ((A 10), .inl (cy 0, 80, .inl mtext)), ((A 11), .inl (cy 0, 200, .inl mtold)), ((A 12), .inl (cy 0, 672, .inl mahead))] (fun u => [((A 0), .inr (10, [.ref (A 1), .ref (A 2), .ref (A 3), .ref (A 4), .int mhasKept, .ref (A 5), .int mpasts, .ref (A 6), .int mreports, .int u.2.1, .ref (A 7), .ref (A 8), .ref (A 9), .int mordering, .int u.2.2, .ref (A 10), .int mlength, .int mspot, .int mnumber, .ref (A 11), .int mtolds, .ref (A 12)])), ((A 1), .inl (cy 0, 672, .inl mg)), ((A 2), .inl (cy 0, 672, .inl mkept)), ((A 3), .inl (cy 0, 672, .inl mspare)), ((A 4), .inl (cy 0, 672, .inl mtrial)), ((A 5), .inl (cy 0, 5376, .inl mpast)), ((A 6), .inl (cy 0, 6, .inl mreport)), ((A 7), .inl (cy 0, 5, .inl mpart)), ((A 8), .inl (cy 0, 5, .inl mcome)), ((A 9), .inl (cy 0, 60, .inl morder)), ((A 10), .inl (cy 0, 80, .inl mtext)), ((A 11), .inl (cy 0, 200, .inl mtold)), ((A 12), .inl (cy 0, 672, .inl mahead))]) post := by
  refine Ctr.of (cc := cX9_wouldSell) (maxL := 2) (ret := (some .int)) (lv0 := [(0, .ref (A 0)), (1, .int p0)]) (by decide) rfl (Nat.le_of_ble_eq_true rfl) rfl ?_
  intro X El hR Er Enm ED E En K
  have K : Cx X cX9_wouldSell RX9 wsX9_wouldSell (xTys cy) sd := K
  have E : X.2.2.2.2.2.2.2.2.2.2.1 = xMQ X (fun u : Int32 × Int32 × Int32 => some (.int u.1)) post (fun u => [((A 0), .inr (10, [.ref (A 1), .ref (A 2), .ref (A 3), .ref (A 4), .int mhasKept, .ref (A 5), .int mpasts, .ref (A 6), .int mreports, .int u.2.1, .ref (A 7), .ref (A 8), .ref (A 9), .int mordering, .int u.2.2, .ref (A 10), .int mlength, .int mspot, .int mnumber, .ref (A 11), .int mtolds, .ref (A 12)])), ((A 1), .inl (cy 0, 672, .inl mg)), ((A 2), .inl (cy 0, 672, .inl mkept)), ((A 3), .inl (cy 0, 672, .inl mspare)), ((A 4), .inl (cy 0, 672, .inl mtrial)), ((A 5), .inl (cy 0, 5376, .inl mpast)), ((A 6), .inl (cy 0, 6, .inl mreport)), ((A 7), .inl (cy 0, 5, .inl mpart)), ((A 8), .inl (cy 0, 5, .inl mcome)), ((A 9), .inl (cy 0, 60, .inl morder)), ((A 10), .inl (cy 0, 80, .inl mtext)), ((A 11), .inl (cy 0, 200, .inl mtold)), ((A 12), .inl (cy 0, 672, .inl mahead))]) 0 0 := E
  unfold wp_X9_wouldSell at hw
  refine g_aload_n K 0 dX9_wouldSell_0 rfl ?_
  refine g_aload_n K 0 dX9_wouldSell_1 rfl ?_
  refine g_iload_n K 1 dX9_wouldSell_2 rfl ?_
  refine g_callVr (st' := fun u1 => [.int (bI u1), .ref (A 0)]) K hR [.int p0] [.ref (A 0)] 0 rfl rfl (c_X9_isBale X.2.1 (gxD X) cy sd A mg mkept mspare mtrial mpast mreport mpart mcome morder mtext mtold mahead mhasKept mpasts mreports mthrown mordering mdetail mlength mspot mnumber mtolds p0 hw) gX9_wouldSell_X9_isBale rfl yok_X9_isBale rfl rfl (by decide) rfl (Nat.le_of_ble_eq_true rfl) dX9_wouldSell_3 [0, 1, 2, 3, 4, 5, 6, 7, 8, 9, 10, 11, 12] rfl (by decide) (fun _ => rfl) ⟨rfl, rfl⟩ (fun u1 hw => ?_)
  refine g_ifb_eq (tgt := 25) K dX9_wouldSell_6 (by decide) (fun hc => ?_) (fun hc => ?_)
  · replace hw := hw.2 hc
    refine g_iconst (v := 1) K dX9_wouldSell_25 rfl ?_
    refine g_put (ty := .int) (ws' := [((A 0), .inr (10, [.ref (A 1), .ref (A 2), .ref (A 3), .ref (A 4), .int mhasKept, .ref (A 5), .int mpasts, .ref (A 6), .int mreports, .int 1, .ref (A 7), .ref (A 8), .ref (A 9), .int mordering, .int mdetail, .ref (A 10), .int mlength, .int mspot, .int mnumber, .ref (A 11), .int mtolds, .ref (A 12)])), ((A 1), .inl (cy 0, 672, .inl mg)), ((A 2), .inl (cy 0, 672, .inl mkept)), ((A 3), .inl (cy 0, 672, .inl mspare)), ((A 4), .inl (cy 0, 672, .inl mtrial)), ((A 5), .inl (cy 0, 5376, .inl mpast)), ((A 6), .inl (cy 0, 6, .inl mreport)), ((A 7), .inl (cy 0, 5, .inl mpart)), ((A 8), .inl (cy 0, 5, .inl mcome)), ((A 9), .inl (cy 0, 60, .inl morder)), ((A 10), .inl (cy 0, 80, .inl mtext)), ((A 11), .inl (cy 0, 200, .inl mtold)), ((A 12), .inl (cy 0, 672, .inl mahead))]) K (C := RX9) (T := TX9) (N := 22) 0 9 in_X9_wouldSell_X9 tyX9 tyX9_ok nmX9 (by decide +kernel) rfl rfl (by decide) rfl (by decide +kernel) rfl rfl (Nat.le_of_ble_eq_true rfl) rfl dX9_wouldSell_26 ?_
    refine g_aload_n K 0 dX9_wouldSell_29 rfl ?_
    refine g_get K (C := RX9) (T := TX9) (N := 22) 0 9 in_X9_wouldSell_X9 (by decide +kernel) rfl rfl (by decide) rfl dX9_wouldSell_30 ?_
    refine g_if_le (tgt := 40) K dX9_wouldSell_33 (by decide) (fun hc => absurd hc (by decide)) (fun _ => ?_)
    refine g_iconst (v := 0) K dX9_wouldSell_36 rfl ?_
    refine g_goto (tgt := 45) K dX9_wouldSell_37 (by decide) ?_
    exact g_zret K E Er (0, 1, mdetail) hw rfl rfl rfl (Nat.le_refl _) (Nat.le_refl _) dX9_wouldSell_45
  · replace hw := hw.1 hc
    refine g_aload_n K 0 dX9_wouldSell_9 rfl ?_
    refine g_iload_n K 1 dX9_wouldSell_10 rfl ?_
    refine g_callV (st' := fun u2 => [.int u2.1, .ref (A 0)]) (ws' := fun u2 => [((A 0), .inr (10, [.ref (A 1), .ref (A 2), .ref (A 3), .ref (A 4), .int mhasKept, .ref (A 5), .int mpasts, .ref (A 6), .int mreports, .int mthrown, .ref (A 7), .ref (A 8), .ref (A 9), .int mordering, .int u2.2, .ref (A 10), .int mlength, .int mspot, .int mnumber, .ref (A 11), .int mtolds, .ref (A 12)])), ((A 1), .inl (cy 0, 672, .inl mg)), ((A 2), .inl (cy 0, 672, .inl mkept)), ((A 3), .inl (cy 0, 672, .inl mspare)), ((A 4), .inl (cy 0, 672, .inl mtrial)), ((A 5), .inl (cy 0, 5376, .inl mpast)), ((A 6), .inl (cy 0, 6, .inl mreport)), ((A 7), .inl (cy 0, 5, .inl mpart)), ((A 8), .inl (cy 0, 5, .inl mcome)), ((A 9), .inl (cy 0, 60, .inl morder)), ((A 10), .inl (cy 0, 80, .inl mtext)), ((A 11), .inl (cy 0, 200, .inl mtold)), ((A 12), .inl (cy 0, 672, .inl mahead))]) K hR [.int p0] [.ref (A 0)] 0 rfl rfl (c_X9_against X.2.1 (gxD X) cy sd A mg mkept mspare mtrial mpast mreport mpart mcome morder mtext mtold mahead mhasKept mpasts mreports mthrown mordering mdetail mlength mspot mnumber mtolds p0 hw) gX9_wouldSell_X9_against rfl yok_X9_against rfl rfl (by decide) rfl (Nat.le_of_ble_eq_true rfl) dX9_wouldSell_11 [0, 1, 2, 3, 4, 5, 6, 7, 8, 9, 10, 11, 12] rfl (by decide) (fun _ => rfl) (fun _ => rfl) (fun _ => rfl) ⟨rfl, rfl⟩ (fun u2 hw => ?_)
    refine g_if_le (tgt := 21) K dX9_wouldSell_14 (by decide) (fun hc => ?_) (fun hc => ?_)
    · replace hw := hw.1 hc
      refine g_iconst (v := 0) K dX9_wouldSell_21 rfl ?_
      refine g_goto (tgt := 26) K dX9_wouldSell_22 (by decide) ?_
      refine g_put (ty := .int) (ws' := [((A 0), .inr (10, [.ref (A 1), .ref (A 2), .ref (A 3), .ref (A 4), .int mhasKept, .ref (A 5), .int mpasts, .ref (A 6), .int mreports, .int 0, .ref (A 7), .ref (A 8), .ref (A 9), .int mordering, .int u2.2, .ref (A 10), .int mlength, .int mspot, .int mnumber, .ref (A 11), .int mtolds, .ref (A 12)])), ((A 1), .inl (cy 0, 672, .inl mg)), ((A 2), .inl (cy 0, 672, .inl mkept)), ((A 3), .inl (cy 0, 672, .inl mspare)), ((A 4), .inl (cy 0, 672, .inl mtrial)), ((A 5), .inl (cy 0, 5376, .inl mpast)), ((A 6), .inl (cy 0, 6, .inl mreport)), ((A 7), .inl (cy 0, 5, .inl mpart)), ((A 8), .inl (cy 0, 5, .inl mcome)), ((A 9), .inl (cy 0, 60, .inl morder)), ((A 10), .inl (cy 0, 80, .inl mtext)), ((A 11), .inl (cy 0, 200, .inl mtold)), ((A 12), .inl (cy 0, 672, .inl mahead))]) K (C := RX9) (T := TX9) (N := 22) 0 9 in_X9_wouldSell_X9 tyX9 tyX9_ok nmX9 (by decide +kernel) rfl rfl (by decide) rfl (by decide +kernel) rfl rfl (Nat.le_of_ble_eq_true rfl) rfl dX9_wouldSell_26 ?_
      refine g_aload_n K 0 dX9_wouldSell_29 rfl ?_
      refine g_get K (C := RX9) (T := TX9) (N := 22) 0 9 in_X9_wouldSell_X9 (by decide +kernel) rfl rfl (by decide) rfl dX9_wouldSell_30 ?_
      refine g_if_le (tgt := 40) K dX9_wouldSell_33 (by decide) (fun _ => ?_) (fun hc => absurd (by decide) hc)
      refine g_aload_n K 0 dX9_wouldSell_40 rfl ?_
      refine g_iload_n K 1 dX9_wouldSell_41 rfl ?_
      refine g_callVr (st' := fun u3 => [.int u3]) K hR [.int p0] [] 0 rfl rfl (c_X9_bestFor X.2.1 (gxD X) cy sd A mg mkept mspare mtrial mpast mreport mpart mcome morder mtext mtold mahead mhasKept mpasts mreports 0 mordering u2.2 mlength mspot mnumber mtolds p0 hw) gX9_wouldSell_X9_bestFor rfl yok_X9_bestFor rfl rfl (by decide) rfl (Nat.le_of_ble_eq_true rfl) dX9_wouldSell_42 [0, 1, 2, 3, 4, 5, 6, 7, 8, 9, 10, 11, 12] rfl (by decide) (fun _ => rfl) ⟨rfl, rfl⟩ (fun u3 hw => ?_)
      exact g_zret K E Er (u3, 0, u2.2) hw rfl rfl rfl (Nat.le_refl _) (Nat.le_refl _) dX9_wouldSell_45
    · replace hw := hw.2 hc
      refine g_iconst (v := 2) K dX9_wouldSell_17 rfl ?_
      refine g_goto (tgt := 26) K dX9_wouldSell_18 (by decide) ?_
      refine g_put (ty := .int) (ws' := [((A 0), .inr (10, [.ref (A 1), .ref (A 2), .ref (A 3), .ref (A 4), .int mhasKept, .ref (A 5), .int mpasts, .ref (A 6), .int mreports, .int 2, .ref (A 7), .ref (A 8), .ref (A 9), .int mordering, .int u2.2, .ref (A 10), .int mlength, .int mspot, .int mnumber, .ref (A 11), .int mtolds, .ref (A 12)])), ((A 1), .inl (cy 0, 672, .inl mg)), ((A 2), .inl (cy 0, 672, .inl mkept)), ((A 3), .inl (cy 0, 672, .inl mspare)), ((A 4), .inl (cy 0, 672, .inl mtrial)), ((A 5), .inl (cy 0, 5376, .inl mpast)), ((A 6), .inl (cy 0, 6, .inl mreport)), ((A 7), .inl (cy 0, 5, .inl mpart)), ((A 8), .inl (cy 0, 5, .inl mcome)), ((A 9), .inl (cy 0, 60, .inl morder)), ((A 10), .inl (cy 0, 80, .inl mtext)), ((A 11), .inl (cy 0, 200, .inl mtold)), ((A 12), .inl (cy 0, 672, .inl mahead))]) K (C := RX9) (T := TX9) (N := 22) 0 9 in_X9_wouldSell_X9 tyX9 tyX9_ok nmX9 (by decide +kernel) rfl rfl (by decide) rfl (by decide +kernel) rfl rfl (Nat.le_of_ble_eq_true rfl) rfl dX9_wouldSell_26 ?_
      refine g_aload_n K 0 dX9_wouldSell_29 rfl ?_
      refine g_get K (C := RX9) (T := TX9) (N := 22) 0 9 in_X9_wouldSell_X9 (by decide +kernel) rfl rfl (by decide) rfl dX9_wouldSell_30 ?_
      refine g_if_le (tgt := 40) K dX9_wouldSell_33 (by decide) (fun hc => absurd hc (by decide)) (fun _ => ?_)
      refine g_iconst (v := 0) K dX9_wouldSell_36 rfl ?_
      refine g_goto (tgt := 45) K dX9_wouldSell_37 (by decide) ?_
      exact g_zret K E Er (0, 2, u2.2) hw rfl rfl rfl (Nat.le_refl _) (Nat.le_refl _) dX9_wouldSell_45

def wp_X9_report (mreport : XRow) (mreports : Int32) (p0 : Int32) (p1 : Bool) (post : (Int32 × Int32) → Prop) : Prop := wp_X9_in p0 0 (mreports - 1) (fun u1 : Bool => (u1 = true → ((p1 = true → (vp_in ((2 * p0) + 1) 6 ∧ (post (mreport ((2 * p0) + 1).toNatClampNeg, 0)))) ∧ (p1 = false → (vp_in ((2 * p0) + 0) 6 ∧ (post (mreport ((2 * p0) + 0).toNatClampNeg, 0)))))) ∧ (u1 = false → (post (0, 1))))
theorem in_X9_report_X9 : ∀ w ∈ u_ws RX9 TX9 22, w ∈ wsX9_report := by decide +kernel
set_option maxRecDepth 100000 in
set_option maxHeartbeats 4000000 in
theorem c_X9_report (l : Launch) (D : va_G) (cy : Nat → ClassId) (sd : xSd) (A : Nat → Nat) (mg : XRow) (mkept : XRow) (mspare : XRow) (mtrial : XRow) (mpast : XRow) (mreport : XRow) (mpart : XRow) (mcome : XRow) (morder : XRow) (mtext : XRow) (mtold : XRow) (mahead : XRow) (mhasKept : Int32) (mpasts : Int32) (mreports : Int32) (mthrown : Int32) (mordering : Int32) (mdetail : Int32) (mlength : Int32) (mspot : Int32) (mnumber : Int32) (mtolds : Int32) (p0 : Int32) (p1 : Bool) {post : (Int32 × Int32) → Prop} (hw : wp_X9_report mreport mreports p0 p1 post) : Ctr l D (xTys cy) sd yX9_report wsX9_report ({ frames := 1, cells := 0, slots := 0, locals := 22 } : Room) [.ref (A 0), .int p0, .int (bI p1)] (fun u : Int32 × Int32 => some (.int u.1)) [((A 0), .inr (10, [.ref (A 1), .ref (A 2), .ref (A 3), .ref (A 4), .int mhasKept, .ref (A 5), .int mpasts, .ref (A 6), .int mreports, .int mthrown, .ref (A 7), .ref (A 8), .ref (A 9), .int mordering, .int mdetail, .ref (A 10), .int mlength, .int mspot, .int mnumber, .ref (A 11), .int mtolds, .ref (A 12)])), ((A 1), .inl (cy 0, 672, .inl mg)), ((A 2), .inl (cy 0, 672, .inl mkept)), ((A 3), .inl (cy 0, 672, .inl mspare)), ((A 4), .inl (cy 0, 672, .inl mtrial)), ((A 5), .inl (cy 0, 5376, .inl mpast)), ((A 6), .inl (cy 0, 6, .inl mreport)), ((A 7), .inl (cy 0, 5, .inl mpart)), ((A 8), .inl (cy 0, 5, .inl mcome)), ((A 9), .inl (cy 0, 60, .inl morder)), ((A 10), .inl (cy 0, 80, .inl mtext)), ((A 11), .inl (cy 0, 200, .inl mtold)), ((A 12), .inl (cy 0, 672, .inl mahead))] (fun u => [((A 0), .inr (10, [.ref (A 1), .ref (A 2), .ref (A 3), .ref (A 4), .int mhasKept, .ref (A 5), .int mpasts, .ref (A 6), .int mreports, .int u.2, .ref (A 7), .ref (A 8), .ref (A 9), .int mordering, .int mdetail, .ref (A 10), .int mlength, .int mspot, .int mnumber, .ref (A 11), .int mtolds, .ref (A 12)])), ((A 1), .inl (cy 0, 672, .inl mg)), ((A 2), .inl (cy 0, 672, .inl mkept)), ((A 3), .inl (cy 0, 672, .inl mspare)), ((A 4), .inl (cy 0, 672, .inl mtrial)), ((A 5), .inl (cy 0, 5376, .inl mpast)), ((A 6), .inl (cy 0, 6, .inl mreport)), ((A 7), .inl (cy 0, 5, .inl mpart)), ((A 8), .inl (cy 0, 5, .inl mcome)), ((A 9), .inl (cy 0, 60, .inl morder)), ((A 10), .inl (cy 0, 80, .inl mtext)), ((A 11), .inl (cy 0, 200, .inl mtold)), ((A 12), .inl (cy 0, 672, .inl mahead))]) post := by
  refine Ctr.of (cc := cX9_report) (maxL := 3) (ret := (some .int)) (lv0 := [(0, .ref (A 0)), (1, .int p0), (2, .int (bI p1))]) (by decide) rfl (Nat.le_of_ble_eq_true rfl) rfl ?_
  intro X El hR Er Enm ED E En K
  have K : Cx X cX9_report RX9 wsX9_report (xTys cy) sd := K
  have E : X.2.2.2.2.2.2.2.2.2.2.1 = xMQ X (fun u : Int32 × Int32 => some (.int u.1)) post (fun u => [((A 0), .inr (10, [.ref (A 1), .ref (A 2), .ref (A 3), .ref (A 4), .int mhasKept, .ref (A 5), .int mpasts, .ref (A 6), .int mreports, .int u.2, .ref (A 7), .ref (A 8), .ref (A 9), .int mordering, .int mdetail, .ref (A 10), .int mlength, .int mspot, .int mnumber, .ref (A 11), .int mtolds, .ref (A 12)])), ((A 1), .inl (cy 0, 672, .inl mg)), ((A 2), .inl (cy 0, 672, .inl mkept)), ((A 3), .inl (cy 0, 672, .inl mspare)), ((A 4), .inl (cy 0, 672, .inl mtrial)), ((A 5), .inl (cy 0, 5376, .inl mpast)), ((A 6), .inl (cy 0, 6, .inl mreport)), ((A 7), .inl (cy 0, 5, .inl mpart)), ((A 8), .inl (cy 0, 5, .inl mcome)), ((A 9), .inl (cy 0, 60, .inl morder)), ((A 10), .inl (cy 0, 80, .inl mtext)), ((A 11), .inl (cy 0, 200, .inl mtold)), ((A 12), .inl (cy 0, 672, .inl mahead))]) 0 0 := E
  unfold wp_X9_report at hw
  refine g_aload_n K 0 dX9_report_0 rfl ?_
  refine g_iload_n K 1 dX9_report_1 rfl ?_
  refine g_iconst (v := 0) K dX9_report_2 rfl ?_
  refine g_aload_n K 0 dX9_report_3 rfl ?_
  refine g_get K (C := RX9) (T := TX9) (N := 22) 0 8 in_X9_report_X9 (by decide +kernel) rfl rfl (by decide) rfl dX9_report_4 ?_
  refine g_iconst (v := 1) K dX9_report_7 rfl ?_
  refine g_isub K dX9_report_8 ?_
  refine g_callSr (st' := fun u1 => [.int (bI u1), .ref (A 0)]) K hR [.int p0, .int 0, .int (mreports - 1)] [.ref (A 0)] (c_X9_in X.2.1 (gxD X) cy sd p0 0 (mreports - 1) hw) gX9_report_X9_in rfl yok_X9_in rfl (by decide) rfl (Nat.le_of_ble_eq_true rfl) dX9_report_9 [] rfl (by decide) (fun _ => rfl) ⟨rfl, rfl⟩ (fun u1 hw => ?_)
  refine g_ifb_eq (tgt := 19) K dX9_report_12 (by decide) (fun hc => ?_) (fun hc => ?_)
  · replace hw := hw.2 hc
    refine g_iconst (v := 1) K dX9_report_19 rfl ?_
    refine g_put (ty := .int) (ws' := [((A 0), .inr (10, [.ref (A 1), .ref (A 2), .ref (A 3), .ref (A 4), .int mhasKept, .ref (A 5), .int mpasts, .ref (A 6), .int mreports, .int 1, .ref (A 7), .ref (A 8), .ref (A 9), .int mordering, .int mdetail, .ref (A 10), .int mlength, .int mspot, .int mnumber, .ref (A 11), .int mtolds, .ref (A 12)])), ((A 1), .inl (cy 0, 672, .inl mg)), ((A 2), .inl (cy 0, 672, .inl mkept)), ((A 3), .inl (cy 0, 672, .inl mspare)), ((A 4), .inl (cy 0, 672, .inl mtrial)), ((A 5), .inl (cy 0, 5376, .inl mpast)), ((A 6), .inl (cy 0, 6, .inl mreport)), ((A 7), .inl (cy 0, 5, .inl mpart)), ((A 8), .inl (cy 0, 5, .inl mcome)), ((A 9), .inl (cy 0, 60, .inl morder)), ((A 10), .inl (cy 0, 80, .inl mtext)), ((A 11), .inl (cy 0, 200, .inl mtold)), ((A 12), .inl (cy 0, 672, .inl mahead))]) K (C := RX9) (T := TX9) (N := 22) 0 9 in_X9_report_X9 tyX9 tyX9_ok nmX9 (by decide +kernel) rfl rfl (by decide) rfl (by decide +kernel) rfl rfl (Nat.le_of_ble_eq_true rfl) rfl dX9_report_20 ?_
    refine g_aload_n K 0 dX9_report_23 rfl ?_
    refine g_get K (C := RX9) (T := TX9) (N := 22) 0 9 in_X9_report_X9 (by decide +kernel) rfl rfl (by decide) rfl dX9_report_24 ?_
    refine g_if_le (tgt := 34) K dX9_report_27 (by decide) (fun hc => absurd hc (by decide)) (fun _ => ?_)
    refine g_iconst (v := 0) K dX9_report_30 rfl ?_
    refine g_goto (tgt := 52) K dX9_report_31 (by decide) ?_
    exact g_zret K E Er (0, 1) hw rfl rfl rfl (Nat.le_refl _) (Nat.le_refl _) dX9_report_52
  · replace hw := hw.1 hc
    refine g_iconst (v := 0) K dX9_report_15 rfl ?_
    refine g_goto (tgt := 20) K dX9_report_16 (by decide) ?_
    refine g_put (ty := .int) (ws' := [((A 0), .inr (10, [.ref (A 1), .ref (A 2), .ref (A 3), .ref (A 4), .int mhasKept, .ref (A 5), .int mpasts, .ref (A 6), .int mreports, .int 0, .ref (A 7), .ref (A 8), .ref (A 9), .int mordering, .int mdetail, .ref (A 10), .int mlength, .int mspot, .int mnumber, .ref (A 11), .int mtolds, .ref (A 12)])), ((A 1), .inl (cy 0, 672, .inl mg)), ((A 2), .inl (cy 0, 672, .inl mkept)), ((A 3), .inl (cy 0, 672, .inl mspare)), ((A 4), .inl (cy 0, 672, .inl mtrial)), ((A 5), .inl (cy 0, 5376, .inl mpast)), ((A 6), .inl (cy 0, 6, .inl mreport)), ((A 7), .inl (cy 0, 5, .inl mpart)), ((A 8), .inl (cy 0, 5, .inl mcome)), ((A 9), .inl (cy 0, 60, .inl morder)), ((A 10), .inl (cy 0, 80, .inl mtext)), ((A 11), .inl (cy 0, 200, .inl mtold)), ((A 12), .inl (cy 0, 672, .inl mahead))]) K (C := RX9) (T := TX9) (N := 22) 0 9 in_X9_report_X9 tyX9 tyX9_ok nmX9 (by decide +kernel) rfl rfl (by decide) rfl (by decide +kernel) rfl rfl (Nat.le_of_ble_eq_true rfl) rfl dX9_report_20 ?_
    refine g_aload_n K 0 dX9_report_23 rfl ?_
    refine g_get K (C := RX9) (T := TX9) (N := 22) 0 9 in_X9_report_X9 (by decide +kernel) rfl rfl (by decide) rfl dX9_report_24 ?_
    refine g_if_le (tgt := 34) K dX9_report_27 (by decide) (fun _ => ?_) (fun hc => absurd (by decide) hc)
    refine g_aload_n K 0 dX9_report_34 rfl ?_
    refine g_get K (C := RX9) (T := TX9) (N := 22) 0 7 in_X9_report_X9 (by decide +kernel) rfl rfl (by decide) rfl dX9_report_35 ?_
    refine g_iconst (v := 2) K dX9_report_38 rfl ?_
    refine g_iload_n K 1 dX9_report_39 rfl ?_
    refine g_imul K dX9_report_40 ?_
    refine g_iload_n K 2 dX9_report_41 rfl ?_
    refine g_ifb_eq (tgt := 49) K dX9_report_42 (by decide) (fun hc => ?_) (fun hc => ?_)
    · replace hw := hw.2 hc
      refine g_iconst (v := 0) K dX9_report_49 rfl ?_
      refine g_iadd K dX9_report_50 ?_
      refine g_iald K 6 0 rfl rfl hw.1 dX9_report_51 ?_
      replace hw := hw.2
      exact g_zret K E Er (mreport ((2 * p0) + 0).toNatClampNeg, 0) hw rfl rfl rfl (Nat.le_refl _) (Nat.le_refl _) dX9_report_52
    · replace hw := hw.1 hc
      refine g_iconst (v := 1) K dX9_report_45 rfl ?_
      refine g_goto (tgt := 50) K dX9_report_46 (by decide) ?_
      refine g_iadd K dX9_report_50 ?_
      refine g_iald K 6 0 rfl rfl hw.1 dX9_report_51 ?_
      replace hw := hw.2
      exact g_zret K E Er (mreport ((2 * p0) + 1).toNatClampNeg, 0) hw rfl rfl rfl (Nat.le_refl _) (Nat.le_refl _) dX9_report_52

def wp_X9_balesIn_L4 (mg : XRow) (p0 : Int32) (k4_47 : Int32 → Int32 → Prop) : Nat → Int32 → Int32 → Prop
  | 0, _, _ => False
  | fu + 1, v1, v2 => vp_in 2 672 ∧ (((mg ((2 : Int32).toNatClampNeg)) ≤ v1 → (k4_47 v1 v2)) ∧ (¬ (mg ((2 : Int32).toNatClampNeg)) ≤ v1 → (wp_X9_baleAt v1 7 (fun u3 : Int32 => vp_in u3 672 ∧ (((mg (u3).toNatClampNeg) = p0 → (wp_X9_kilosOf mg v1 (fun u6 : Int32 => ∀ x7 : Int32, x7 = v2 + u6 → (∀ x8 : Int32, x8 = v1 + 1 → (wp_X9_balesIn_L4 mg p0 k4_47 fu x8 x7))))) ∧ (¬ (mg (u3).toNatClampNeg) = p0 → (∀ x4 : Int32, x4 = v2 + 0 → (∀ x5 : Int32, x5 = v1 + 1 → (wp_X9_balesIn_L4 mg p0 k4_47 fu x5 x4)))))))))
def wp_X9_balesIn (mg : XRow) (p0 : Int32) (post : Int32 → Prop) : Prop := ∃ fl, wp_X9_balesIn_L4 mg p0 (fun (v9 : Int32) (v10 : Int32) => post v10) fl 0 0
theorem in_X9_balesIn_X9 : ∀ w ∈ u_ws RX9 TX9 22, w ∈ wsX9_balesIn := by decide +kernel
set_option maxRecDepth 100000 in
set_option maxHeartbeats 4000000 in
theorem c_X9_balesIn (l : Launch) (D : va_G) (cy : Nat → ClassId) (sd : xSd) (A : Nat → Nat) (mg : XRow) (mkept : XRow) (mspare : XRow) (mtrial : XRow) (mpast : XRow) (mreport : XRow) (mpart : XRow) (mcome : XRow) (morder : XRow) (mtext : XRow) (mtold : XRow) (mahead : XRow) (mhasKept : Int32) (mpasts : Int32) (mreports : Int32) (mthrown : Int32) (mordering : Int32) (mdetail : Int32) (mlength : Int32) (mspot : Int32) (mnumber : Int32) (mtolds : Int32) (p0 : Int32) {post : Int32 → Prop} (hw : wp_X9_balesIn mg p0 post) : Ctr l D (xTys cy) sd yX9_balesIn wsX9_balesIn ({ frames := 2, cells := 0, slots := 0, locals := 44 } : Room) [.ref (A 0), .int p0] (fun u : Int32 => some (.int u)) [((A 0), .inr (10, [.ref (A 1), .ref (A 2), .ref (A 3), .ref (A 4), .int mhasKept, .ref (A 5), .int mpasts, .ref (A 6), .int mreports, .int mthrown, .ref (A 7), .ref (A 8), .ref (A 9), .int mordering, .int mdetail, .ref (A 10), .int mlength, .int mspot, .int mnumber, .ref (A 11), .int mtolds, .ref (A 12)])), ((A 1), .inl (cy 0, 672, .inl mg)), ((A 2), .inl (cy 0, 672, .inl mkept)), ((A 3), .inl (cy 0, 672, .inl mspare)), ((A 4), .inl (cy 0, 672, .inl mtrial)), ((A 5), .inl (cy 0, 5376, .inl mpast)), ((A 6), .inl (cy 0, 6, .inl mreport)), ((A 7), .inl (cy 0, 5, .inl mpart)), ((A 8), .inl (cy 0, 5, .inl mcome)), ((A 9), .inl (cy 0, 60, .inl morder)), ((A 10), .inl (cy 0, 80, .inl mtext)), ((A 11), .inl (cy 0, 200, .inl mtold)), ((A 12), .inl (cy 0, 672, .inl mahead))] (fun _ => [((A 0), .inr (10, [.ref (A 1), .ref (A 2), .ref (A 3), .ref (A 4), .int mhasKept, .ref (A 5), .int mpasts, .ref (A 6), .int mreports, .int mthrown, .ref (A 7), .ref (A 8), .ref (A 9), .int mordering, .int mdetail, .ref (A 10), .int mlength, .int mspot, .int mnumber, .ref (A 11), .int mtolds, .ref (A 12)])), ((A 1), .inl (cy 0, 672, .inl mg)), ((A 2), .inl (cy 0, 672, .inl mkept)), ((A 3), .inl (cy 0, 672, .inl mspare)), ((A 4), .inl (cy 0, 672, .inl mtrial)), ((A 5), .inl (cy 0, 5376, .inl mpast)), ((A 6), .inl (cy 0, 6, .inl mreport)), ((A 7), .inl (cy 0, 5, .inl mpart)), ((A 8), .inl (cy 0, 5, .inl mcome)), ((A 9), .inl (cy 0, 60, .inl morder)), ((A 10), .inl (cy 0, 80, .inl mtext)), ((A 11), .inl (cy 0, 200, .inl mtold)), ((A 12), .inl (cy 0, 672, .inl mahead))]) post := by
  refine Ctr.of (cc := cX9_balesIn) (maxL := 4) (ret := (some .int)) (lv0 := [(0, .ref (A 0)), (1, .int p0)]) (by decide) rfl (Nat.le_of_ble_eq_true rfl) rfl ?_
  intro X El hR Er Enm ED E En K
  have K : Cx X cX9_balesIn RX9 wsX9_balesIn (xTys cy) sd := K
  have E : X.2.2.2.2.2.2.2.2.2.2.1 = xMQ X (fun u : Int32 => some (.int u)) post (fun _ => [((A 0), .inr (10, [.ref (A 1), .ref (A 2), .ref (A 3), .ref (A 4), .int mhasKept, .ref (A 5), .int mpasts, .ref (A 6), .int mreports, .int mthrown, .ref (A 7), .ref (A 8), .ref (A 9), .int mordering, .int mdetail, .ref (A 10), .int mlength, .int mspot, .int mnumber, .ref (A 11), .int mtolds, .ref (A 12)])), ((A 1), .inl (cy 0, 672, .inl mg)), ((A 2), .inl (cy 0, 672, .inl mkept)), ((A 3), .inl (cy 0, 672, .inl mspare)), ((A 4), .inl (cy 0, 672, .inl mtrial)), ((A 5), .inl (cy 0, 5376, .inl mpast)), ((A 6), .inl (cy 0, 6, .inl mreport)), ((A 7), .inl (cy 0, 5, .inl mpart)), ((A 8), .inl (cy 0, 5, .inl mcome)), ((A 9), .inl (cy 0, 60, .inl morder)), ((A 10), .inl (cy 0, 80, .inl mtext)), ((A 11), .inl (cy 0, 200, .inl mtold)), ((A 12), .inl (cy 0, 672, .inl mahead))]) 0 0 := E
  unfold wp_X9_balesIn at hw
  refine g_iconst (v := 0) K dX9_balesIn_0 rfl ?_
  refine g_istore_n (lv' := [(2, .int 0), (0, .ref (A 0)), (1, .int p0)]) K dX9_balesIn_1 rfl (by rw [En]; decide) rfl ?_
  refine g_iconst (v := 0) K dX9_balesIn_2 rfl ?_
  refine g_istore_n (lv' := [(3, .int 0), (2, .int 0), (0, .ref (A 0)), (1, .int p0)]) K dX9_balesIn_3 rfl (by rw [En]; decide) rfl ?_
  obtain ⟨fl, hw⟩ := hw
  have key : ∀ (k4_47 : Int32 → Int32 → Prop), (∀ (v1 : Int32) (v2 : Int32), k4_47 v1 v2 → Gx X 0 0 [((A 0), .inr (10, [.ref (A 1), .ref (A 2), .ref (A 3), .ref (A 4), .int mhasKept, .ref (A 5), .int mpasts, .ref (A 6), .int mreports, .int mthrown, .ref (A 7), .ref (A 8), .ref (A 9), .int mordering, .int mdetail, .ref (A 10), .int mlength, .int mspot, .int mnumber, .ref (A 11), .int mtolds, .ref (A 12)])), ((A 1), .inl (cy 0, 672, .inl mg)), ((A 2), .inl (cy 0, 672, .inl mkept)), ((A 3), .inl (cy 0, 672, .inl mspare)), ((A 4), .inl (cy 0, 672, .inl mtrial)), ((A 5), .inl (cy 0, 5376, .inl mpast)), ((A 6), .inl (cy 0, 6, .inl mreport)), ((A 7), .inl (cy 0, 5, .inl mpart)), ((A 8), .inl (cy 0, 5, .inl mcome)), ((A 9), .inl (cy 0, 60, .inl morder)), ((A 10), .inl (cy 0, 80, .inl mtext)), ((A 11), .inl (cy 0, 200, .inl mtold)), ((A 12), .inl (cy 0, 672, .inl mahead))] [(3, .int v1), (2, .int v2), (0, .ref (A 0)), (1, .int p0)] 47 []) → ∀ (n : Nat) (v1 : Int32) (v2 : Int32), wp_X9_balesIn_L4 mg p0 k4_47 n v1 v2 → Gx X 0 0 [((A 0), .inr (10, [.ref (A 1), .ref (A 2), .ref (A 3), .ref (A 4), .int mhasKept, .ref (A 5), .int mpasts, .ref (A 6), .int mreports, .int mthrown, .ref (A 7), .ref (A 8), .ref (A 9), .int mordering, .int mdetail, .ref (A 10), .int mlength, .int mspot, .int mnumber, .ref (A 11), .int mtolds, .ref (A 12)])), ((A 1), .inl (cy 0, 672, .inl mg)), ((A 2), .inl (cy 0, 672, .inl mkept)), ((A 3), .inl (cy 0, 672, .inl mspare)), ((A 4), .inl (cy 0, 672, .inl mtrial)), ((A 5), .inl (cy 0, 5376, .inl mpast)), ((A 6), .inl (cy 0, 6, .inl mreport)), ((A 7), .inl (cy 0, 5, .inl mpart)), ((A 8), .inl (cy 0, 5, .inl mcome)), ((A 9), .inl (cy 0, 60, .inl morder)), ((A 10), .inl (cy 0, 80, .inl mtext)), ((A 11), .inl (cy 0, 200, .inl mtold)), ((A 12), .inl (cy 0, 672, .inl mahead))] [(3, .int v1), (2, .int v2), (0, .ref (A 0)), (1, .int p0)] 4 [] := by
    intro k4_47 hx47 n
    induction n with
    | zero => intro v1 v2 hw; exact hw.elim
    | succ n ih =>
      intro v1 v2 hw
      refine g_iload_n K 0 dX9_balesIn_4 rfl ?_
      refine g_aload_n K 2 dX9_balesIn_5 rfl ?_
      refine g_get K (C := RX9) (T := TX9) (N := 22) 0 0 in_X9_balesIn_X9 (by decide +kernel) rfl rfl (by decide) rfl dX9_balesIn_6 ?_
      refine g_iconst (v := 2) K dX9_balesIn_9 rfl ?_
      refine g_iald K 1 0 rfl rfl hw.1 dX9_balesIn_10 ?_
      replace hw := hw.2
      refine g_icmp_ge (tgt := 47) K dX9_balesIn_11 (by decide) (fun hc => ?_) (fun hc => ?_)
      · replace hw := hw.1 hc
        exact hx47 _ _ hw
      · replace hw := hw.2 hc
        refine g_iload_n K 1 dX9_balesIn_14 rfl ?_
        refine g_aload_n K 2 dX9_balesIn_15 rfl ?_
        refine g_get K (C := RX9) (T := TX9) (N := 22) 0 0 in_X9_balesIn_X9 (by decide +kernel) rfl rfl (by decide) rfl dX9_balesIn_16 ?_
        refine g_iload_n K 0 dX9_balesIn_19 rfl ?_
        refine g_bipush (v := 7) K dX9_balesIn_20 rfl ?_
        refine g_callSr (st' := fun u3 => [.int u3, .ref (A 1), .int v2]) K hR [.int v1, .int 7] [.ref (A 1), .int v2] (c_X9_baleAt X.2.1 (gxD X) cy sd v1 7 hw) gX9_balesIn_X9_baleAt rfl yok_X9_baleAt rfl (by decide) rfl (Nat.le_of_ble_eq_true rfl) dX9_balesIn_22 [] rfl (by decide) (fun _ => rfl) ⟨rfl, rfl⟩ (fun u3 hw => ?_)
        refine g_iald K 1 0 rfl rfl hw.1 dX9_balesIn_25 ?_
        replace hw := hw.2
        refine g_iload_n K 3 dX9_balesIn_26 rfl ?_
        refine g_icmp_ne (tgt := 38) K dX9_balesIn_27 (by decide) (fun hc => ?_) (fun hc => ?_)
        · replace hw := hw.2 hc
          refine g_iconst (v := 0) K dX9_balesIn_38 rfl ?_
          refine g_iadd K dX9_balesIn_39 ?_
          refine g_topi (fun x4 ex4 => ?_)
          replace hw := hw x4 ex4
          refine g_istore_n (lv' := [(2, .int x4), (3, .int v1), (0, .ref (A 0)), (1, .int p0)]) K dX9_balesIn_40 rfl (by rw [En]; decide) rfl ?_
          obtain ⟨x5, ex5⟩ : ∃ z : Int32, z = v1 + 1 := ⟨_, rfl⟩
          replace hw := hw x5 ex5
          refine g_iinc (v := x5) (lv' := [(3, .int x5), (2, .int x4), (0, .ref (A 0)), (1, .int p0)]) K 1 dX9_balesIn_41 rfl (by rw [ex5]; rfl) (by rw [En]; decide) rfl ?_
          refine g_goto (tgt := 4) K dX9_balesIn_44 (by decide) ?_
          exact ih _ _ hw
        · replace hw := hw.1 hc
          refine g_aload_n K 2 dX9_balesIn_30 rfl ?_
          refine g_iload_n K 0 dX9_balesIn_31 rfl ?_
          refine g_callVr (st' := fun u6 => [.int u6, .int v2]) K hR [.int v1] [.int v2] 0 rfl rfl (c_X9_kilosOf X.2.1 (gxD X) cy sd A mg mkept mspare mtrial mpast mreport mpart mcome morder mtext mtold mahead mhasKept mpasts mreports mthrown mordering mdetail mlength mspot mnumber mtolds v1 hw) gX9_balesIn_X9_kilosOf rfl yok_X9_kilosOf rfl rfl (by decide) rfl (Nat.le_of_ble_eq_true rfl) dX9_balesIn_32 [0, 1, 2, 3, 4, 5, 6, 7, 8, 9, 10, 11, 12] rfl (by decide) (fun _ => rfl) ⟨rfl, rfl⟩ (fun u6 hw => ?_)
          refine g_goto (tgt := 39) K dX9_balesIn_35 (by decide) ?_
          refine g_iadd K dX9_balesIn_39 ?_
          refine g_topi (fun x7 ex7 => ?_)
          replace hw := hw x7 ex7
          refine g_istore_n (lv' := [(2, .int x7), (3, .int v1), (0, .ref (A 0)), (1, .int p0)]) K dX9_balesIn_40 rfl (by rw [En]; decide) rfl ?_
          obtain ⟨x8, ex8⟩ : ∃ z : Int32, z = v1 + 1 := ⟨_, rfl⟩
          replace hw := hw x8 ex8
          refine g_iinc (v := x8) (lv' := [(3, .int x8), (2, .int x7), (0, .ref (A 0)), (1, .int p0)]) K 1 dX9_balesIn_41 rfl (by rw [ex8]; rfl) (by rw [En]; decide) rfl ?_
          refine g_goto (tgt := 4) K dX9_balesIn_44 (by decide) ?_
          exact ih _ _ hw
  refine key _ (fun v9 v10 hw => ?_) fl _ _ hw
  refine g_iload_n K 1 dX9_balesIn_47 rfl ?_
  exact g_zret K E Er v10 hw rfl rfl rfl (Nat.le_refl _) (Nat.le_refl _) dX9_balesIn_48

def wp_X9_bunkers_L4 (mg : XRow) (k4_32 : Int32 → Int32 → Prop) : Nat → Int32 → Int32 → Prop
  | 0, _, _ => False
  | fu + 1, v1, v2 => vp_in 0 672 ∧ (((mg ((0 : Int32).toNatClampNeg)) ≤ v1 → (k4_32 v1 v2)) ∧ (¬ (mg ((0 : Int32).toNatClampNeg)) ≤ v1 → (wp_X9_machineAt v1 5 (fun u3 : Int32 => wp_X9_sum mg u3 (fun u4 : Int32 => ∀ x5 : Int32, x5 = v2 + u4 → (∀ x6 : Int32, x6 = v1 + 1 → (wp_X9_bunkers_L4 mg k4_32 fu x6 x5)))))))
def wp_X9_bunkers (mg : XRow) (post : Int32 → Prop) : Prop := ∃ fl, wp_X9_bunkers_L4 mg (fun (v7 : Int32) (v8 : Int32) => post v8) fl 0 0
theorem in_X9_bunkers_X9 : ∀ w ∈ u_ws RX9 TX9 22, w ∈ wsX9_bunkers := by decide +kernel
set_option maxRecDepth 100000 in
set_option maxHeartbeats 4000000 in
theorem c_X9_bunkers (l : Launch) (D : va_G) (cy : Nat → ClassId) (sd : xSd) (A : Nat → Nat) (mg : XRow) (mkept : XRow) (mspare : XRow) (mtrial : XRow) (mpast : XRow) (mreport : XRow) (mpart : XRow) (mcome : XRow) (morder : XRow) (mtext : XRow) (mtold : XRow) (mahead : XRow) (mhasKept : Int32) (mpasts : Int32) (mreports : Int32) (mthrown : Int32) (mordering : Int32) (mdetail : Int32) (mlength : Int32) (mspot : Int32) (mnumber : Int32) (mtolds : Int32) {post : Int32 → Prop} (hw : wp_X9_bunkers mg post) : Ctr l D (xTys cy) sd yX9_bunkers wsX9_bunkers ({ frames := 1, cells := 0, slots := 0, locals := 23 } : Room) [.ref (A 0)] (fun u : Int32 => some (.int u)) [((A 0), .inr (10, [.ref (A 1), .ref (A 2), .ref (A 3), .ref (A 4), .int mhasKept, .ref (A 5), .int mpasts, .ref (A 6), .int mreports, .int mthrown, .ref (A 7), .ref (A 8), .ref (A 9), .int mordering, .int mdetail, .ref (A 10), .int mlength, .int mspot, .int mnumber, .ref (A 11), .int mtolds, .ref (A 12)])), ((A 1), .inl (cy 0, 672, .inl mg)), ((A 2), .inl (cy 0, 672, .inl mkept)), ((A 3), .inl (cy 0, 672, .inl mspare)), ((A 4), .inl (cy 0, 672, .inl mtrial)), ((A 5), .inl (cy 0, 5376, .inl mpast)), ((A 6), .inl (cy 0, 6, .inl mreport)), ((A 7), .inl (cy 0, 5, .inl mpart)), ((A 8), .inl (cy 0, 5, .inl mcome)), ((A 9), .inl (cy 0, 60, .inl morder)), ((A 10), .inl (cy 0, 80, .inl mtext)), ((A 11), .inl (cy 0, 200, .inl mtold)), ((A 12), .inl (cy 0, 672, .inl mahead))] (fun _ => [((A 0), .inr (10, [.ref (A 1), .ref (A 2), .ref (A 3), .ref (A 4), .int mhasKept, .ref (A 5), .int mpasts, .ref (A 6), .int mreports, .int mthrown, .ref (A 7), .ref (A 8), .ref (A 9), .int mordering, .int mdetail, .ref (A 10), .int mlength, .int mspot, .int mnumber, .ref (A 11), .int mtolds, .ref (A 12)])), ((A 1), .inl (cy 0, 672, .inl mg)), ((A 2), .inl (cy 0, 672, .inl mkept)), ((A 3), .inl (cy 0, 672, .inl mspare)), ((A 4), .inl (cy 0, 672, .inl mtrial)), ((A 5), .inl (cy 0, 5376, .inl mpast)), ((A 6), .inl (cy 0, 6, .inl mreport)), ((A 7), .inl (cy 0, 5, .inl mpart)), ((A 8), .inl (cy 0, 5, .inl mcome)), ((A 9), .inl (cy 0, 60, .inl morder)), ((A 10), .inl (cy 0, 80, .inl mtext)), ((A 11), .inl (cy 0, 200, .inl mtold)), ((A 12), .inl (cy 0, 672, .inl mahead))]) post := by
  refine Ctr.of (cc := cX9_bunkers) (maxL := 3) (ret := (some .int)) (lv0 := [(0, .ref (A 0))]) (by decide) rfl (Nat.le_of_ble_eq_true rfl) rfl ?_
  intro X El hR Er Enm ED E En K
  have K : Cx X cX9_bunkers RX9 wsX9_bunkers (xTys cy) sd := K
  have E : X.2.2.2.2.2.2.2.2.2.2.1 = xMQ X (fun u : Int32 => some (.int u)) post (fun _ => [((A 0), .inr (10, [.ref (A 1), .ref (A 2), .ref (A 3), .ref (A 4), .int mhasKept, .ref (A 5), .int mpasts, .ref (A 6), .int mreports, .int mthrown, .ref (A 7), .ref (A 8), .ref (A 9), .int mordering, .int mdetail, .ref (A 10), .int mlength, .int mspot, .int mnumber, .ref (A 11), .int mtolds, .ref (A 12)])), ((A 1), .inl (cy 0, 672, .inl mg)), ((A 2), .inl (cy 0, 672, .inl mkept)), ((A 3), .inl (cy 0, 672, .inl mspare)), ((A 4), .inl (cy 0, 672, .inl mtrial)), ((A 5), .inl (cy 0, 5376, .inl mpast)), ((A 6), .inl (cy 0, 6, .inl mreport)), ((A 7), .inl (cy 0, 5, .inl mpart)), ((A 8), .inl (cy 0, 5, .inl mcome)), ((A 9), .inl (cy 0, 60, .inl morder)), ((A 10), .inl (cy 0, 80, .inl mtext)), ((A 11), .inl (cy 0, 200, .inl mtold)), ((A 12), .inl (cy 0, 672, .inl mahead))]) 0 0 := E
  unfold wp_X9_bunkers at hw
  refine g_iconst (v := 0) K dX9_bunkers_0 rfl ?_
  refine g_istore_n (lv' := [(1, .int 0), (0, .ref (A 0))]) K dX9_bunkers_1 rfl (by rw [En]; decide) rfl ?_
  refine g_iconst (v := 0) K dX9_bunkers_2 rfl ?_
  refine g_istore_n (lv' := [(2, .int 0), (1, .int 0), (0, .ref (A 0))]) K dX9_bunkers_3 rfl (by rw [En]; decide) rfl ?_
  obtain ⟨fl, hw⟩ := hw
  have key : ∀ (k4_32 : Int32 → Int32 → Prop), (∀ (v1 : Int32) (v2 : Int32), k4_32 v1 v2 → Gx X 0 0 [((A 0), .inr (10, [.ref (A 1), .ref (A 2), .ref (A 3), .ref (A 4), .int mhasKept, .ref (A 5), .int mpasts, .ref (A 6), .int mreports, .int mthrown, .ref (A 7), .ref (A 8), .ref (A 9), .int mordering, .int mdetail, .ref (A 10), .int mlength, .int mspot, .int mnumber, .ref (A 11), .int mtolds, .ref (A 12)])), ((A 1), .inl (cy 0, 672, .inl mg)), ((A 2), .inl (cy 0, 672, .inl mkept)), ((A 3), .inl (cy 0, 672, .inl mspare)), ((A 4), .inl (cy 0, 672, .inl mtrial)), ((A 5), .inl (cy 0, 5376, .inl mpast)), ((A 6), .inl (cy 0, 6, .inl mreport)), ((A 7), .inl (cy 0, 5, .inl mpart)), ((A 8), .inl (cy 0, 5, .inl mcome)), ((A 9), .inl (cy 0, 60, .inl morder)), ((A 10), .inl (cy 0, 80, .inl mtext)), ((A 11), .inl (cy 0, 200, .inl mtold)), ((A 12), .inl (cy 0, 672, .inl mahead))] [(2, .int v1), (1, .int v2), (0, .ref (A 0))] 32 []) → ∀ (n : Nat) (v1 : Int32) (v2 : Int32), wp_X9_bunkers_L4 mg k4_32 n v1 v2 → Gx X 0 0 [((A 0), .inr (10, [.ref (A 1), .ref (A 2), .ref (A 3), .ref (A 4), .int mhasKept, .ref (A 5), .int mpasts, .ref (A 6), .int mreports, .int mthrown, .ref (A 7), .ref (A 8), .ref (A 9), .int mordering, .int mdetail, .ref (A 10), .int mlength, .int mspot, .int mnumber, .ref (A 11), .int mtolds, .ref (A 12)])), ((A 1), .inl (cy 0, 672, .inl mg)), ((A 2), .inl (cy 0, 672, .inl mkept)), ((A 3), .inl (cy 0, 672, .inl mspare)), ((A 4), .inl (cy 0, 672, .inl mtrial)), ((A 5), .inl (cy 0, 5376, .inl mpast)), ((A 6), .inl (cy 0, 6, .inl mreport)), ((A 7), .inl (cy 0, 5, .inl mpart)), ((A 8), .inl (cy 0, 5, .inl mcome)), ((A 9), .inl (cy 0, 60, .inl morder)), ((A 10), .inl (cy 0, 80, .inl mtext)), ((A 11), .inl (cy 0, 200, .inl mtold)), ((A 12), .inl (cy 0, 672, .inl mahead))] [(2, .int v1), (1, .int v2), (0, .ref (A 0))] 4 [] := by
    intro k4_32 hx32 n
    induction n with
    | zero => intro v1 v2 hw; exact hw.elim
    | succ n ih =>
      intro v1 v2 hw
      refine g_iload_n K 0 dX9_bunkers_4 rfl ?_
      refine g_aload_n K 2 dX9_bunkers_5 rfl ?_
      refine g_get K (C := RX9) (T := TX9) (N := 22) 0 0 in_X9_bunkers_X9 (by decide +kernel) rfl rfl (by decide) rfl dX9_bunkers_6 ?_
      refine g_iconst (v := 0) K dX9_bunkers_9 rfl ?_
      refine g_iald K 1 0 rfl rfl hw.1 dX9_bunkers_10 ?_
      replace hw := hw.2
      refine g_icmp_ge (tgt := 32) K dX9_bunkers_11 (by decide) (fun hc => ?_) (fun hc => ?_)
      · replace hw := hw.1 hc
        exact hx32 _ _ hw
      · replace hw := hw.2 hc
        refine g_iload_n K 1 dX9_bunkers_14 rfl ?_
        refine g_aload_n K 2 dX9_bunkers_15 rfl ?_
        refine g_iload_n K 0 dX9_bunkers_16 rfl ?_
        refine g_iconst (v := 5) K dX9_bunkers_17 rfl ?_
        refine g_callSr (st' := fun u3 => [.int u3, .ref (A 0), .int v2]) K hR [.int v1, .int 5] [.ref (A 0), .int v2] (c_X9_machineAt X.2.1 (gxD X) cy sd v1 5 hw) gX9_bunkers_X9_machineAt rfl yok_X9_machineAt rfl (by decide) rfl (Nat.le_of_ble_eq_true rfl) dX9_bunkers_18 [] rfl (by decide) (fun _ => rfl) ⟨rfl, rfl⟩ (fun u3 hw => ?_)
        refine g_callVr (st' := fun u4 => [.int u4, .int v2]) K hR [.int u3] [.int v2] 0 rfl rfl (c_X9_sum X.2.1 (gxD X) cy sd A mg mkept mspare mtrial mpast mreport mpart mcome morder mtext mtold mahead mhasKept mpasts mreports mthrown mordering mdetail mlength mspot mnumber mtolds u3 hw) gX9_bunkers_X9_sum rfl yok_X9_sum rfl rfl (by decide) rfl (Nat.le_of_ble_eq_true rfl) dX9_bunkers_21 [0, 1, 2, 3, 4, 5, 6, 7, 8, 9, 10, 11, 12] rfl (by decide) (fun _ => rfl) ⟨rfl, rfl⟩ (fun u4 hw => ?_)
        refine g_iadd K dX9_bunkers_24 ?_
        refine g_topi (fun x5 ex5 => ?_)
        replace hw := hw x5 ex5
        refine g_istore_n (lv' := [(1, .int x5), (2, .int v1), (0, .ref (A 0))]) K dX9_bunkers_25 rfl (by rw [En]; decide) rfl ?_
        obtain ⟨x6, ex6⟩ : ∃ z : Int32, z = v1 + 1 := ⟨_, rfl⟩
        replace hw := hw x6 ex6
        refine g_iinc (v := x6) (lv' := [(2, .int x6), (1, .int x5), (0, .ref (A 0))]) K 1 dX9_bunkers_26 rfl (by rw [ex6]; rfl) (by rw [En]; decide) rfl ?_
        refine g_goto (tgt := 4) K dX9_bunkers_29 (by decide) ?_
        exact ih _ _ hw
  refine key _ (fun v7 v8 hw => ?_) fl _ _ hw
  refine g_iload_n K 1 dX9_bunkers_32 rfl ?_
  exact g_zret K E Er v8 hw rfl rfl rfl (Nat.le_refl _) (Nat.le_refl _) dX9_bunkers_33

def wp_X9_account (mg : XRow) (p0 : Int32) (post : (Int64 × Int32) → Prop) : Prop := wp_X9_in p0 0 15 (fun u1 : Bool => (u1 = true → (((p0.toInt < 5 ∨ 5 + (11 : Nat) ≤ p0.toInt) → (vp_in (21 + p0) 672 ∧ (post ((mg (21 + p0).toNatClampNeg).toInt64, 0)))) ∧ (p0 = 5 → (wp_X9_sum mg 11 (fun u2 : Int32 => post (u2.toInt64, 0)))) ∧ (p0 = 6 → (wp_X9_bunkers mg (fun u3 : Int32 => post (u3.toInt64, 0)))) ∧ (p0 = 7 → (wp_X9_balesIn mg 0 (fun u4 : Int32 => post (u4.toInt64, 0)))) ∧ (p0 = 8 → (wp_X9_balesIn mg 1 (fun u5 : Int32 => post (u5.toInt64, 0)))) ∧ (p0 = 9 → (wp_X9_sum mg 16 (fun u6 : Int32 => post (u6.toInt64, 0)))) ∧ (p0 = 10 → (vp_in 2 672 ∧ (post ((mg ((2 : Int32).toNatClampNeg)).toInt64, 0)))) ∧ (p0 = 11 → (vp_in 3 672 ∧ (post ((mg ((3 : Int32).toNatClampNeg)).toInt64, 0)))) ∧ (p0 = 12 → (vp_in 4 672 ∧ (post ((mg ((4 : Int32).toNatClampNeg)).toInt64, 0)))) ∧ (p0 = 13 → (vp_in 5 672 ∧ (post ((mg ((5 : Int32).toNatClampNeg)).toInt64, 0)))) ∧ (p0 = 14 → (vp_in 0 672 ∧ (post ((mg ((0 : Int32).toNatClampNeg)).toInt64, 0)))) ∧ (p0 = 15 → (vp_in 1 672 ∧ (post ((mg ((1 : Int32).toNatClampNeg)).toInt64, 0)))))) ∧ (u1 = false → (post (0, 1))))
theorem in_X9_account_X9 : ∀ w ∈ u_ws RX9 TX9 22, w ∈ wsX9_account := by decide +kernel
set_option maxRecDepth 100000 in
set_option maxHeartbeats 4000000 in
theorem c_X9_account (l : Launch) (D : va_G) (cy : Nat → ClassId) (sd : xSd) (A : Nat → Nat) (mg : XRow) (mkept : XRow) (mspare : XRow) (mtrial : XRow) (mpast : XRow) (mreport : XRow) (mpart : XRow) (mcome : XRow) (morder : XRow) (mtext : XRow) (mtold : XRow) (mahead : XRow) (mhasKept : Int32) (mpasts : Int32) (mreports : Int32) (mthrown : Int32) (mordering : Int32) (mdetail : Int32) (mlength : Int32) (mspot : Int32) (mnumber : Int32) (mtolds : Int32) (p0 : Int32) {post : (Int64 × Int32) → Prop} (hw : wp_X9_account mg p0 post) : Ctr l D (xTys cy) sd yX9_account wsX9_account ({ frames := 3, cells := 0, slots := 0, locals := 67 } : Room) [.ref (A 0), .int p0] (fun u : Int64 × Int32 => some (.long u.1)) [((A 0), .inr (10, [.ref (A 1), .ref (A 2), .ref (A 3), .ref (A 4), .int mhasKept, .ref (A 5), .int mpasts, .ref (A 6), .int mreports, .int mthrown, .ref (A 7), .ref (A 8), .ref (A 9), .int mordering, .int mdetail, .ref (A 10), .int mlength, .int mspot, .int mnumber, .ref (A 11), .int mtolds, .ref (A 12)])), ((A 1), .inl (cy 0, 672, .inl mg)), ((A 2), .inl (cy 0, 672, .inl mkept)), ((A 3), .inl (cy 0, 672, .inl mspare)), ((A 4), .inl (cy 0, 672, .inl mtrial)), ((A 5), .inl (cy 0, 5376, .inl mpast)), ((A 6), .inl (cy 0, 6, .inl mreport)), ((A 7), .inl (cy 0, 5, .inl mpart)), ((A 8), .inl (cy 0, 5, .inl mcome)), ((A 9), .inl (cy 0, 60, .inl morder)), ((A 10), .inl (cy 0, 80, .inl mtext)), ((A 11), .inl (cy 0, 200, .inl mtold)), ((A 12), .inl (cy 0, 672, .inl mahead))] (fun u => [((A 0), .inr (10, [.ref (A 1), .ref (A 2), .ref (A 3), .ref (A 4), .int mhasKept, .ref (A 5), .int mpasts, .ref (A 6), .int mreports, .int u.2, .ref (A 7), .ref (A 8), .ref (A 9), .int mordering, .int mdetail, .ref (A 10), .int mlength, .int mspot, .int mnumber, .ref (A 11), .int mtolds, .ref (A 12)])), ((A 1), .inl (cy 0, 672, .inl mg)), ((A 2), .inl (cy 0, 672, .inl mkept)), ((A 3), .inl (cy 0, 672, .inl mspare)), ((A 4), .inl (cy 0, 672, .inl mtrial)), ((A 5), .inl (cy 0, 5376, .inl mpast)), ((A 6), .inl (cy 0, 6, .inl mreport)), ((A 7), .inl (cy 0, 5, .inl mpart)), ((A 8), .inl (cy 0, 5, .inl mcome)), ((A 9), .inl (cy 0, 60, .inl morder)), ((A 10), .inl (cy 0, 80, .inl mtext)), ((A 11), .inl (cy 0, 200, .inl mtold)), ((A 12), .inl (cy 0, 672, .inl mahead))]) post := by
  refine Ctr.of (cc := cX9_account) (maxL := 2) (ret := (some .long)) (lv0 := [(0, .ref (A 0)), (1, .int p0)]) (by decide) rfl (Nat.le_of_ble_eq_true rfl) rfl ?_
  intro X El hR Er Enm ED E En K
  have K : Cx X cX9_account RX9 wsX9_account (xTys cy) sd := K
  have E : X.2.2.2.2.2.2.2.2.2.2.1 = xMQ X (fun u : Int64 × Int32 => some (.long u.1)) post (fun u => [((A 0), .inr (10, [.ref (A 1), .ref (A 2), .ref (A 3), .ref (A 4), .int mhasKept, .ref (A 5), .int mpasts, .ref (A 6), .int mreports, .int u.2, .ref (A 7), .ref (A 8), .ref (A 9), .int mordering, .int mdetail, .ref (A 10), .int mlength, .int mspot, .int mnumber, .ref (A 11), .int mtolds, .ref (A 12)])), ((A 1), .inl (cy 0, 672, .inl mg)), ((A 2), .inl (cy 0, 672, .inl mkept)), ((A 3), .inl (cy 0, 672, .inl mspare)), ((A 4), .inl (cy 0, 672, .inl mtrial)), ((A 5), .inl (cy 0, 5376, .inl mpast)), ((A 6), .inl (cy 0, 6, .inl mreport)), ((A 7), .inl (cy 0, 5, .inl mpart)), ((A 8), .inl (cy 0, 5, .inl mcome)), ((A 9), .inl (cy 0, 60, .inl morder)), ((A 10), .inl (cy 0, 80, .inl mtext)), ((A 11), .inl (cy 0, 200, .inl mtold)), ((A 12), .inl (cy 0, 672, .inl mahead))]) 0 0 := E
  unfold wp_X9_account at hw
  refine g_aload_n K 0 dX9_account_0 rfl ?_
  refine g_iload_n K 1 dX9_account_1 rfl ?_
  refine g_iconst (v := 0) K dX9_account_2 rfl ?_
  refine g_bipush (v := 15) K dX9_account_3 rfl ?_
  refine g_callSr (st' := fun u1 => [.int (bI u1), .ref (A 0)]) K hR [.int p0, .int 0, .int 15] [.ref (A 0)] (c_X9_in X.2.1 (gxD X) cy sd p0 0 15 hw) gX9_account_X9_in rfl yok_X9_in rfl (by decide) rfl (Nat.le_of_ble_eq_true rfl) dX9_account_5 [] rfl (by decide) (fun _ => rfl) ⟨rfl, rfl⟩ (fun u1 hw => ?_)
  refine g_ifb_eq (tgt := 15) K dX9_account_8 (by decide) (fun hc => ?_) (fun hc => ?_)
  · replace hw := hw.2 hc
    refine g_iconst (v := 1) K dX9_account_15 rfl ?_
    refine g_put (ty := .int) (ws' := [((A 0), .inr (10, [.ref (A 1), .ref (A 2), .ref (A 3), .ref (A 4), .int mhasKept, .ref (A 5), .int mpasts, .ref (A 6), .int mreports, .int 1, .ref (A 7), .ref (A 8), .ref (A 9), .int mordering, .int mdetail, .ref (A 10), .int mlength, .int mspot, .int mnumber, .ref (A 11), .int mtolds, .ref (A 12)])), ((A 1), .inl (cy 0, 672, .inl mg)), ((A 2), .inl (cy 0, 672, .inl mkept)), ((A 3), .inl (cy 0, 672, .inl mspare)), ((A 4), .inl (cy 0, 672, .inl mtrial)), ((A 5), .inl (cy 0, 5376, .inl mpast)), ((A 6), .inl (cy 0, 6, .inl mreport)), ((A 7), .inl (cy 0, 5, .inl mpart)), ((A 8), .inl (cy 0, 5, .inl mcome)), ((A 9), .inl (cy 0, 60, .inl morder)), ((A 10), .inl (cy 0, 80, .inl mtext)), ((A 11), .inl (cy 0, 200, .inl mtold)), ((A 12), .inl (cy 0, 672, .inl mahead))]) K (C := RX9) (T := TX9) (N := 22) 0 9 in_X9_account_X9 tyX9 tyX9_ok nmX9 (by decide +kernel) rfl rfl (by decide) rfl (by decide +kernel) rfl rfl (Nat.le_of_ble_eq_true rfl) rfl dX9_account_16 ?_
    refine g_aload_n K 0 dX9_account_19 rfl ?_
    refine g_get K (C := RX9) (T := TX9) (N := 22) 0 9 in_X9_account_X9 (by decide +kernel) rfl rfl (by decide) rfl dX9_account_20 ?_
    refine g_if_le (tgt := 28) K dX9_account_23 (by decide) (fun hc => absurd hc (by decide)) (fun _ => ?_)
    refine g_lconst (v := 0) K dX9_account_26 rfl ?_
    exact g_lret K E Er (0, 1) hw rfl rfl (Nat.le_refl _) (Nat.le_refl _) dX9_account_27
  · replace hw := hw.1 hc
    refine g_iconst (v := 0) K dX9_account_11 rfl ?_
    refine g_goto (tgt := 16) K dX9_account_12 (by decide) ?_
    refine g_put (ty := .int) (ws' := [((A 0), .inr (10, [.ref (A 1), .ref (A 2), .ref (A 3), .ref (A 4), .int mhasKept, .ref (A 5), .int mpasts, .ref (A 6), .int mreports, .int 0, .ref (A 7), .ref (A 8), .ref (A 9), .int mordering, .int mdetail, .ref (A 10), .int mlength, .int mspot, .int mnumber, .ref (A 11), .int mtolds, .ref (A 12)])), ((A 1), .inl (cy 0, 672, .inl mg)), ((A 2), .inl (cy 0, 672, .inl mkept)), ((A 3), .inl (cy 0, 672, .inl mspare)), ((A 4), .inl (cy 0, 672, .inl mtrial)), ((A 5), .inl (cy 0, 5376, .inl mpast)), ((A 6), .inl (cy 0, 6, .inl mreport)), ((A 7), .inl (cy 0, 5, .inl mpart)), ((A 8), .inl (cy 0, 5, .inl mcome)), ((A 9), .inl (cy 0, 60, .inl morder)), ((A 10), .inl (cy 0, 80, .inl mtext)), ((A 11), .inl (cy 0, 200, .inl mtold)), ((A 12), .inl (cy 0, 672, .inl mahead))]) K (C := RX9) (T := TX9) (N := 22) 0 9 in_X9_account_X9 tyX9 tyX9_ok nmX9 (by decide +kernel) rfl rfl (by decide) rfl (by decide +kernel) rfl rfl (Nat.le_of_ble_eq_true rfl) rfl dX9_account_16 ?_
    refine g_aload_n K 0 dX9_account_19 rfl ?_
    refine g_get K (C := RX9) (T := TX9) (N := 22) 0 9 in_X9_account_X9 (by decide +kernel) rfl rfl (by decide) rfl dX9_account_20 ?_
    refine g_if_le (tgt := 28) K dX9_account_23 (by decide) (fun _ => ?_) (fun hc => absurd (by decide) hc)
    refine g_iload_n K 1 dX9_account_28 rfl ?_
    rcases sw_out (x := p0) (lo := 5) (n := 11) with hc | ⟨k, hk, hc⟩
    · refine g_tableOut (tgt := 172) K dX9_account_29 (by omega) (by decide) ?_
      replace hw := hw.1 hc
      refine g_aload_n K 0 dX9_account_172 rfl ?_
      refine g_get K (C := RX9) (T := TX9) (N := 22) 0 0 in_X9_account_X9 (by decide +kernel) rfl rfl (by decide) rfl dX9_account_173 ?_
      refine g_bipush (v := 21) K dX9_account_176 rfl ?_
      refine g_iload_n K 1 dX9_account_178 rfl ?_
      refine g_iadd K dX9_account_179 ?_
      refine g_iald K 1 0 rfl rfl hw.1 dX9_account_180 ?_
      replace hw := hw.2
      refine g_i2l (v := (mg (21 + p0).toNatClampNeg).toInt64) K dX9_account_181 rfl ?_
      exact g_lret K E Er ((mg (21 + p0).toNatClampNeg).toInt64, 0) hw rfl rfl (Nat.le_refl _) (Nat.le_refl _) dX9_account_182
    · replace hw := hw.2
      rcases (show k = 0 ∨ 1 ≤ k by omega) with hk0 | hk0
      · have hx9 : p0 = 5 := Int32.toInt_inj.mp (by rw [hc, hk0]; decide)
        refine g_tableIn (tgt := 88) (off := 59) K dX9_account_29 (by rw [hx9]; decide) (by rw [hx9]; decide) (by rw [hx9]; rfl) (by decide) ?_
        replace hw := hw.1 hx9
        refine g_aload_n K 0 dX9_account_88 rfl ?_
        refine g_bipush (v := 11) K dX9_account_89 rfl ?_
        refine g_callVr (st' := fun u2 => [.int u2]) K hR [.int 11] [] 0 rfl rfl (c_X9_sum X.2.1 (gxD X) cy sd A mg mkept mspare mtrial mpast mreport mpart mcome morder mtext mtold mahead mhasKept mpasts mreports 0 mordering mdetail mlength mspot mnumber mtolds 11 hw) gX9_account_X9_sum rfl yok_X9_sum rfl rfl (by decide) rfl (Nat.le_of_ble_eq_true rfl) dX9_account_91 [0, 1, 2, 3, 4, 5, 6, 7, 8, 9, 10, 11, 12] rfl (by decide) (fun _ => rfl) ⟨rfl, rfl⟩ (fun u2 hw => ?_)
        refine g_i2l (v := u2.toInt64) K dX9_account_94 rfl ?_
        exact g_lret K E Er (u2.toInt64, 0) hw rfl rfl (Nat.le_refl _) (Nat.le_refl _) dX9_account_95
      replace hw := hw.2
      rcases (show k = 1 ∨ 2 ≤ k by omega) with hk1 | hk1
      · have hx9 : p0 = 6 := Int32.toInt_inj.mp (by rw [hc, hk1]; decide)
        refine g_tableIn (tgt := 96) (off := 67) K dX9_account_29 (by rw [hx9]; decide) (by rw [hx9]; decide) (by rw [hx9]; rfl) (by decide) ?_
        replace hw := hw.1 hx9
        refine g_aload_n K 0 dX9_account_96 rfl ?_
        refine g_callVr (st' := fun u3 => [.int u3]) K hR [] [] 0 rfl rfl (c_X9_bunkers X.2.1 (gxD X) cy sd A mg mkept mspare mtrial mpast mreport mpart mcome morder mtext mtold mahead mhasKept mpasts mreports 0 mordering mdetail mlength mspot mnumber mtolds hw) gX9_account_X9_bunkers rfl yok_X9_bunkers rfl rfl (by decide) rfl (Nat.le_of_ble_eq_true rfl) dX9_account_97 [0, 1, 2, 3, 4, 5, 6, 7, 8, 9, 10, 11, 12] rfl (by decide) (fun _ => rfl) ⟨rfl, rfl⟩ (fun u3 hw => ?_)
        refine g_i2l (v := u3.toInt64) K dX9_account_100 rfl ?_
        exact g_lret K E Er (u3.toInt64, 0) hw rfl rfl (Nat.le_refl _) (Nat.le_refl _) dX9_account_101
      replace hw := hw.2
      rcases (show k = 2 ∨ 3 ≤ k by omega) with hk2 | hk2
      · have hx9 : p0 = 7 := Int32.toInt_inj.mp (by rw [hc, hk2]; decide)
        refine g_tableIn (tgt := 102) (off := 73) K dX9_account_29 (by rw [hx9]; decide) (by rw [hx9]; decide) (by rw [hx9]; rfl) (by decide) ?_
        replace hw := hw.1 hx9
        refine g_aload_n K 0 dX9_account_102 rfl ?_
        refine g_iconst (v := 0) K dX9_account_103 rfl ?_
        refine g_callVr (st' := fun u4 => [.int u4]) K hR [.int 0] [] 0 rfl rfl (c_X9_balesIn X.2.1 (gxD X) cy sd A mg mkept mspare mtrial mpast mreport mpart mcome morder mtext mtold mahead mhasKept mpasts mreports 0 mordering mdetail mlength mspot mnumber mtolds 0 hw) gX9_account_X9_balesIn rfl yok_X9_balesIn rfl rfl (by decide) rfl (Nat.le_of_ble_eq_true rfl) dX9_account_104 [0, 1, 2, 3, 4, 5, 6, 7, 8, 9, 10, 11, 12] rfl (by decide) (fun _ => rfl) ⟨rfl, rfl⟩ (fun u4 hw => ?_)
        refine g_i2l (v := u4.toInt64) K dX9_account_107 rfl ?_
        exact g_lret K E Er (u4.toInt64, 0) hw rfl rfl (Nat.le_refl _) (Nat.le_refl _) dX9_account_108
      replace hw := hw.2
      rcases (show k = 3 ∨ 4 ≤ k by omega) with hk3 | hk3
      · have hx9 : p0 = 8 := Int32.toInt_inj.mp (by rw [hc, hk3]; decide)
        refine g_tableIn (tgt := 109) (off := 80) K dX9_account_29 (by rw [hx9]; decide) (by rw [hx9]; decide) (by rw [hx9]; rfl) (by decide) ?_
        replace hw := hw.1 hx9
        refine g_aload_n K 0 dX9_account_109 rfl ?_
        refine g_iconst (v := 1) K dX9_account_110 rfl ?_
        refine g_callVr (st' := fun u5 => [.int u5]) K hR [.int 1] [] 0 rfl rfl (c_X9_balesIn X.2.1 (gxD X) cy sd A mg mkept mspare mtrial mpast mreport mpart mcome morder mtext mtold mahead mhasKept mpasts mreports 0 mordering mdetail mlength mspot mnumber mtolds 1 hw) gX9_account_X9_balesIn rfl yok_X9_balesIn rfl rfl (by decide) rfl (Nat.le_of_ble_eq_true rfl) dX9_account_111 [0, 1, 2, 3, 4, 5, 6, 7, 8, 9, 10, 11, 12] rfl (by decide) (fun _ => rfl) ⟨rfl, rfl⟩ (fun u5 hw => ?_)
        refine g_i2l (v := u5.toInt64) K dX9_account_114 rfl ?_
        exact g_lret K E Er (u5.toInt64, 0) hw rfl rfl (Nat.le_refl _) (Nat.le_refl _) dX9_account_115
      replace hw := hw.2
      rcases (show k = 4 ∨ 5 ≤ k by omega) with hk4 | hk4
      · have hx9 : p0 = 9 := Int32.toInt_inj.mp (by rw [hc, hk4]; decide)
        refine g_tableIn (tgt := 116) (off := 87) K dX9_account_29 (by rw [hx9]; decide) (by rw [hx9]; decide) (by rw [hx9]; rfl) (by decide) ?_
        replace hw := hw.1 hx9
        refine g_aload_n K 0 dX9_account_116 rfl ?_
        refine g_bipush (v := 16) K dX9_account_117 rfl ?_
        refine g_callVr (st' := fun u6 => [.int u6]) K hR [.int 16] [] 0 rfl rfl (c_X9_sum X.2.1 (gxD X) cy sd A mg mkept mspare mtrial mpast mreport mpart mcome morder mtext mtold mahead mhasKept mpasts mreports 0 mordering mdetail mlength mspot mnumber mtolds 16 hw) gX9_account_X9_sum rfl yok_X9_sum rfl rfl (by decide) rfl (Nat.le_of_ble_eq_true rfl) dX9_account_119 [0, 1, 2, 3, 4, 5, 6, 7, 8, 9, 10, 11, 12] rfl (by decide) (fun _ => rfl) ⟨rfl, rfl⟩ (fun u6 hw => ?_)
        refine g_i2l (v := u6.toInt64) K dX9_account_122 rfl ?_
        exact g_lret K E Er (u6.toInt64, 0) hw rfl rfl (Nat.le_refl _) (Nat.le_refl _) dX9_account_123
      replace hw := hw.2
      rcases (show k = 5 ∨ 6 ≤ k by omega) with hk5 | hk5
      · have hx9 : p0 = 10 := Int32.toInt_inj.mp (by rw [hc, hk5]; decide)
        refine g_tableIn (tgt := 124) (off := 95) K dX9_account_29 (by rw [hx9]; decide) (by rw [hx9]; decide) (by rw [hx9]; rfl) (by decide) ?_
        replace hw := hw.1 hx9
        refine g_aload_n K 0 dX9_account_124 rfl ?_
        refine g_get K (C := RX9) (T := TX9) (N := 22) 0 0 in_X9_account_X9 (by decide +kernel) rfl rfl (by decide) rfl dX9_account_125 ?_
        refine g_iconst (v := 2) K dX9_account_128 rfl ?_
        refine g_iald K 1 0 rfl rfl hw.1 dX9_account_129 ?_
        replace hw := hw.2
        refine g_i2l (v := (mg ((2 : Int32).toNatClampNeg)).toInt64) K dX9_account_130 rfl ?_
        exact g_lret K E Er ((mg ((2 : Int32).toNatClampNeg)).toInt64, 0) hw rfl rfl (Nat.le_refl _) (Nat.le_refl _) dX9_account_131
      replace hw := hw.2
      rcases (show k = 6 ∨ 7 ≤ k by omega) with hk6 | hk6
      · have hx9 : p0 = 11 := Int32.toInt_inj.mp (by rw [hc, hk6]; decide)
        refine g_tableIn (tgt := 132) (off := 103) K dX9_account_29 (by rw [hx9]; decide) (by rw [hx9]; decide) (by rw [hx9]; rfl) (by decide) ?_
        replace hw := hw.1 hx9
        refine g_aload_n K 0 dX9_account_132 rfl ?_
        refine g_get K (C := RX9) (T := TX9) (N := 22) 0 0 in_X9_account_X9 (by decide +kernel) rfl rfl (by decide) rfl dX9_account_133 ?_
        refine g_iconst (v := 3) K dX9_account_136 rfl ?_
        refine g_iald K 1 0 rfl rfl hw.1 dX9_account_137 ?_
        replace hw := hw.2
        refine g_i2l (v := (mg ((3 : Int32).toNatClampNeg)).toInt64) K dX9_account_138 rfl ?_
        exact g_lret K E Er ((mg ((3 : Int32).toNatClampNeg)).toInt64, 0) hw rfl rfl (Nat.le_refl _) (Nat.le_refl _) dX9_account_139
      replace hw := hw.2
      rcases (show k = 7 ∨ 8 ≤ k by omega) with hk7 | hk7
      · have hx9 : p0 = 12 := Int32.toInt_inj.mp (by rw [hc, hk7]; decide)
        refine g_tableIn (tgt := 140) (off := 111) K dX9_account_29 (by rw [hx9]; decide) (by rw [hx9]; decide) (by rw [hx9]; rfl) (by decide) ?_
        replace hw := hw.1 hx9
        refine g_aload_n K 0 dX9_account_140 rfl ?_
        refine g_get K (C := RX9) (T := TX9) (N := 22) 0 0 in_X9_account_X9 (by decide +kernel) rfl rfl (by decide) rfl dX9_account_141 ?_
        refine g_iconst (v := 4) K dX9_account_144 rfl ?_
        refine g_iald K 1 0 rfl rfl hw.1 dX9_account_145 ?_
        replace hw := hw.2
        refine g_i2l (v := (mg ((4 : Int32).toNatClampNeg)).toInt64) K dX9_account_146 rfl ?_
        exact g_lret K E Er ((mg ((4 : Int32).toNatClampNeg)).toInt64, 0) hw rfl rfl (Nat.le_refl _) (Nat.le_refl _) dX9_account_147
      replace hw := hw.2
      rcases (show k = 8 ∨ 9 ≤ k by omega) with hk8 | hk8
      · have hx9 : p0 = 13 := Int32.toInt_inj.mp (by rw [hc, hk8]; decide)
        refine g_tableIn (tgt := 148) (off := 119) K dX9_account_29 (by rw [hx9]; decide) (by rw [hx9]; decide) (by rw [hx9]; rfl) (by decide) ?_
        replace hw := hw.1 hx9
        refine g_aload_n K 0 dX9_account_148 rfl ?_
        refine g_get K (C := RX9) (T := TX9) (N := 22) 0 0 in_X9_account_X9 (by decide +kernel) rfl rfl (by decide) rfl dX9_account_149 ?_
        refine g_iconst (v := 5) K dX9_account_152 rfl ?_
        refine g_iald K 1 0 rfl rfl hw.1 dX9_account_153 ?_
        replace hw := hw.2
        refine g_i2l (v := (mg ((5 : Int32).toNatClampNeg)).toInt64) K dX9_account_154 rfl ?_
        exact g_lret K E Er ((mg ((5 : Int32).toNatClampNeg)).toInt64, 0) hw rfl rfl (Nat.le_refl _) (Nat.le_refl _) dX9_account_155
      replace hw := hw.2
      rcases (show k = 9 ∨ 10 ≤ k by omega) with hk9 | hk9
      · have hx9 : p0 = 14 := Int32.toInt_inj.mp (by rw [hc, hk9]; decide)
        refine g_tableIn (tgt := 156) (off := 127) K dX9_account_29 (by rw [hx9]; decide) (by rw [hx9]; decide) (by rw [hx9]; rfl) (by decide) ?_
        replace hw := hw.1 hx9
        refine g_aload_n K 0 dX9_account_156 rfl ?_
        refine g_get K (C := RX9) (T := TX9) (N := 22) 0 0 in_X9_account_X9 (by decide +kernel) rfl rfl (by decide) rfl dX9_account_157 ?_
        refine g_iconst (v := 0) K dX9_account_160 rfl ?_
        refine g_iald K 1 0 rfl rfl hw.1 dX9_account_161 ?_
        replace hw := hw.2
        refine g_i2l (v := (mg ((0 : Int32).toNatClampNeg)).toInt64) K dX9_account_162 rfl ?_
        exact g_lret K E Er ((mg ((0 : Int32).toNatClampNeg)).toInt64, 0) hw rfl rfl (Nat.le_refl _) (Nat.le_refl _) dX9_account_163
      replace hw := hw.2
      have hx9 : p0 = 15 := Int32.toInt_inj.mp (by rw [hc, show k = 10 by omega]; decide)
      refine g_tableIn (tgt := 164) (off := 135) K dX9_account_29 (by rw [hx9]; decide) (by rw [hx9]; decide) (by rw [hx9]; rfl) (by decide) ?_
      replace hw := hw hx9
      refine g_aload_n K 0 dX9_account_164 rfl ?_
      refine g_get K (C := RX9) (T := TX9) (N := 22) 0 0 in_X9_account_X9 (by decide +kernel) rfl rfl (by decide) rfl dX9_account_165 ?_
      refine g_iconst (v := 1) K dX9_account_168 rfl ?_
      refine g_iald K 1 0 rfl rfl hw.1 dX9_account_169 ?_
      replace hw := hw.2
      refine g_i2l (v := (mg ((1 : Int32).toNatClampNeg)).toInt64) K dX9_account_170 rfl ?_
      exact g_lret K E Er ((mg ((1 : Int32).toNatClampNeg)).toInt64, 0) hw rfl rfl (Nat.le_refl _) (Nat.le_refl _) dX9_account_171

def wp_X9_purity_L6 (mg : XRow) (k6_76 : Int32 → Int32 → Int32 → Prop) : Nat → Int32 → Int32 → Int32 → Prop
  | 0, _, _, _ => False
  | fu + 1, v1, v2, v3 => vp_in 2 672 ∧ (((mg ((2 : Int32).toNatClampNeg)) ≤ v1 → (k6_76 v1 v2 v3)) ∧ (¬ (mg ((2 : Int32).toNatClampNeg)) ≤ v1 → (wp_X9_baleAt v1 7 (fun u4 : Int32 => vp_in u4 672 ∧ (((mg (u4).toNatClampNeg) = 2 → (∀ x13 : Int32, x13 = v3 + 0 → (wp_X9_baleAt v1 7 (fun u14 : Int32 => vp_in u14 672 ∧ (((mg (u14).toNatClampNeg) = 2 → (∀ x18 : Int32, x18 = v2 + 0 → (∀ x19 : Int32, x19 = v1 + 1 → (wp_X9_purity_L6 mg k6_76 fu x19 x18 x13)))) ∧ (¬ (mg (u14).toNatClampNeg) = 2 → (wp_X9_kilosOf mg v1 (fun u15 : Int32 => ∀ x16 : Int32, x16 = v2 + u15 → (∀ x17 : Int32, x17 = v1 + 1 → (wp_X9_purity_L6 mg k6_76 fu x17 x16 x13)))))))))) ∧ (¬ (mg (u4).toNatClampNeg) = 2 → (wp_X9_pure mg v1 (fun u5 : Int32 => ∀ x6 : Int32, x6 = v3 + u5 → (wp_X9_baleAt v1 7 (fun u7 : Int32 => vp_in u7 672 ∧ (((mg (u7).toNatClampNeg) = 2 → (∀ x11 : Int32, x11 = v2 + 0 → (∀ x12 : Int32, x12 = v1 + 1 → (wp_X9_purity_L6 mg k6_76 fu x12 x11 x6)))) ∧ (¬ (mg (u7).toNatClampNeg) = 2 → (wp_X9_kilosOf mg v1 (fun u8 : Int32 => ∀ x9 : Int32, x9 = v2 + u8 → (∀ x10 : Int32, x10 = v1 + 1 → (wp_X9_purity_L6 mg k6_76 fu x10 x9 x6))))))))))))))))
def wp_X9_purity (mg : XRow) (post : (UInt64 × Int32) → Prop) : Prop := ∃ fl, wp_X9_purity_L6 mg (fun (v20 : Int32) (v21 : Int32) (v22 : Int32) => (v21 = 0 → ((v21 = 0 → (post (FP.dconst0, 1))) ∧ (¬ v21 = 0 → (vf_n64 (FP.ddiv (FP.i2d v22) (FP.i2d v21)) ∧ (post (FP.ddiv (FP.i2d v22) (FP.i2d v21), 1)))))) ∧ (¬ v21 = 0 → ((v21 = 0 → (post (FP.dconst0, 0))) ∧ (¬ v21 = 0 → (vf_n64 (FP.ddiv (FP.i2d v22) (FP.i2d v21)) ∧ (post (FP.ddiv (FP.i2d v22) (FP.i2d v21), 0))))))) fl 0 0 0
theorem in_X9_purity_X9 : ∀ w ∈ u_ws RX9 TX9 22, w ∈ wsX9_purity := by decide +kernel
set_option maxRecDepth 100000 in
set_option maxHeartbeats 4000000 in
theorem c_X9_purity (l : Launch) (D : va_G) (cy : Nat → ClassId) (sd : xSd) (A : Nat → Nat) (mg : XRow) (mkept : XRow) (mspare : XRow) (mtrial : XRow) (mpast : XRow) (mreport : XRow) (mpart : XRow) (mcome : XRow) (morder : XRow) (mtext : XRow) (mtold : XRow) (mahead : XRow) (mhasKept : Int32) (mpasts : Int32) (mreports : Int32) (mthrown : Int32) (mordering : Int32) (mdetail : Int32) (mlength : Int32) (mspot : Int32) (mnumber : Int32) (mtolds : Int32) {post : (UInt64 × Int32) → Prop} (hw : wp_X9_purity mg post) : Ctr l D (xTys cy) sd yX9_purity wsX9_purity ({ frames := 2, cells := 0, slots := 0, locals := 44 } : Room) [.ref (A 0)] (fun u : UInt64 × Int32 => some (.double u.1)) [((A 0), .inr (10, [.ref (A 1), .ref (A 2), .ref (A 3), .ref (A 4), .int mhasKept, .ref (A 5), .int mpasts, .ref (A 6), .int mreports, .int mthrown, .ref (A 7), .ref (A 8), .ref (A 9), .int mordering, .int mdetail, .ref (A 10), .int mlength, .int mspot, .int mnumber, .ref (A 11), .int mtolds, .ref (A 12)])), ((A 1), .inl (cy 0, 672, .inl mg)), ((A 2), .inl (cy 0, 672, .inl mkept)), ((A 3), .inl (cy 0, 672, .inl mspare)), ((A 4), .inl (cy 0, 672, .inl mtrial)), ((A 5), .inl (cy 0, 5376, .inl mpast)), ((A 6), .inl (cy 0, 6, .inl mreport)), ((A 7), .inl (cy 0, 5, .inl mpart)), ((A 8), .inl (cy 0, 5, .inl mcome)), ((A 9), .inl (cy 0, 60, .inl morder)), ((A 10), .inl (cy 0, 80, .inl mtext)), ((A 11), .inl (cy 0, 200, .inl mtold)), ((A 12), .inl (cy 0, 672, .inl mahead))] (fun u => [((A 0), .inr (10, [.ref (A 1), .ref (A 2), .ref (A 3), .ref (A 4), .int mhasKept, .ref (A 5), .int mpasts, .ref (A 6), .int mreports, .int u.2, .ref (A 7), .ref (A 8), .ref (A 9), .int mordering, .int mdetail, .ref (A 10), .int mlength, .int mspot, .int mnumber, .ref (A 11), .int mtolds, .ref (A 12)])), ((A 1), .inl (cy 0, 672, .inl mg)), ((A 2), .inl (cy 0, 672, .inl mkept)), ((A 3), .inl (cy 0, 672, .inl mspare)), ((A 4), .inl (cy 0, 672, .inl mtrial)), ((A 5), .inl (cy 0, 5376, .inl mpast)), ((A 6), .inl (cy 0, 6, .inl mreport)), ((A 7), .inl (cy 0, 5, .inl mpart)), ((A 8), .inl (cy 0, 5, .inl mcome)), ((A 9), .inl (cy 0, 60, .inl morder)), ((A 10), .inl (cy 0, 80, .inl mtext)), ((A 11), .inl (cy 0, 200, .inl mtold)), ((A 12), .inl (cy 0, 672, .inl mahead))]) post := by
  refine Ctr.of (cc := cX9_purity) (maxL := 4) (ret := (some .double)) (lv0 := [(0, .ref (A 0))]) (by decide) rfl (Nat.le_of_ble_eq_true rfl) rfl ?_
  intro X El hR Er Enm ED E En K
  have K : Cx X cX9_purity RX9 wsX9_purity (xTys cy) sd := K
  have E : X.2.2.2.2.2.2.2.2.2.2.1 = xMQ X (fun u : UInt64 × Int32 => some (.double u.1)) post (fun u => [((A 0), .inr (10, [.ref (A 1), .ref (A 2), .ref (A 3), .ref (A 4), .int mhasKept, .ref (A 5), .int mpasts, .ref (A 6), .int mreports, .int u.2, .ref (A 7), .ref (A 8), .ref (A 9), .int mordering, .int mdetail, .ref (A 10), .int mlength, .int mspot, .int mnumber, .ref (A 11), .int mtolds, .ref (A 12)])), ((A 1), .inl (cy 0, 672, .inl mg)), ((A 2), .inl (cy 0, 672, .inl mkept)), ((A 3), .inl (cy 0, 672, .inl mspare)), ((A 4), .inl (cy 0, 672, .inl mtrial)), ((A 5), .inl (cy 0, 5376, .inl mpast)), ((A 6), .inl (cy 0, 6, .inl mreport)), ((A 7), .inl (cy 0, 5, .inl mpart)), ((A 8), .inl (cy 0, 5, .inl mcome)), ((A 9), .inl (cy 0, 60, .inl morder)), ((A 10), .inl (cy 0, 80, .inl mtext)), ((A 11), .inl (cy 0, 200, .inl mtold)), ((A 12), .inl (cy 0, 672, .inl mahead))]) 0 0 := E
  unfold wp_X9_purity at hw
  refine g_iconst (v := 0) K dX9_purity_0 rfl ?_
  refine g_istore_n (lv' := [(1, .int 0), (0, .ref (A 0))]) K dX9_purity_1 rfl (by rw [En]; decide) rfl ?_
  refine g_iconst (v := 0) K dX9_purity_2 rfl ?_
  refine g_istore_n (lv' := [(2, .int 0), (1, .int 0), (0, .ref (A 0))]) K dX9_purity_3 rfl (by rw [En]; decide) rfl ?_
  refine g_iconst (v := 0) K dX9_purity_4 rfl ?_
  refine g_istore_n (lv' := [(3, .int 0), (2, .int 0), (1, .int 0), (0, .ref (A 0))]) K dX9_purity_5 rfl (by rw [En]; decide) rfl ?_
  obtain ⟨fl, hw⟩ := hw
  have key : ∀ (k6_76 : Int32 → Int32 → Int32 → Prop), (∀ (v1 : Int32) (v2 : Int32) (v3 : Int32), k6_76 v1 v2 v3 → Gx X 0 0 [((A 0), .inr (10, [.ref (A 1), .ref (A 2), .ref (A 3), .ref (A 4), .int mhasKept, .ref (A 5), .int mpasts, .ref (A 6), .int mreports, .int mthrown, .ref (A 7), .ref (A 8), .ref (A 9), .int mordering, .int mdetail, .ref (A 10), .int mlength, .int mspot, .int mnumber, .ref (A 11), .int mtolds, .ref (A 12)])), ((A 1), .inl (cy 0, 672, .inl mg)), ((A 2), .inl (cy 0, 672, .inl mkept)), ((A 3), .inl (cy 0, 672, .inl mspare)), ((A 4), .inl (cy 0, 672, .inl mtrial)), ((A 5), .inl (cy 0, 5376, .inl mpast)), ((A 6), .inl (cy 0, 6, .inl mreport)), ((A 7), .inl (cy 0, 5, .inl mpart)), ((A 8), .inl (cy 0, 5, .inl mcome)), ((A 9), .inl (cy 0, 60, .inl morder)), ((A 10), .inl (cy 0, 80, .inl mtext)), ((A 11), .inl (cy 0, 200, .inl mtold)), ((A 12), .inl (cy 0, 672, .inl mahead))] [(3, .int v1), (2, .int v2), (1, .int v3), (0, .ref (A 0))] 76 []) → ∀ (n : Nat) (v1 : Int32) (v2 : Int32) (v3 : Int32), wp_X9_purity_L6 mg k6_76 n v1 v2 v3 → Gx X 0 0 [((A 0), .inr (10, [.ref (A 1), .ref (A 2), .ref (A 3), .ref (A 4), .int mhasKept, .ref (A 5), .int mpasts, .ref (A 6), .int mreports, .int mthrown, .ref (A 7), .ref (A 8), .ref (A 9), .int mordering, .int mdetail, .ref (A 10), .int mlength, .int mspot, .int mnumber, .ref (A 11), .int mtolds, .ref (A 12)])), ((A 1), .inl (cy 0, 672, .inl mg)), ((A 2), .inl (cy 0, 672, .inl mkept)), ((A 3), .inl (cy 0, 672, .inl mspare)), ((A 4), .inl (cy 0, 672, .inl mtrial)), ((A 5), .inl (cy 0, 5376, .inl mpast)), ((A 6), .inl (cy 0, 6, .inl mreport)), ((A 7), .inl (cy 0, 5, .inl mpart)), ((A 8), .inl (cy 0, 5, .inl mcome)), ((A 9), .inl (cy 0, 60, .inl morder)), ((A 10), .inl (cy 0, 80, .inl mtext)), ((A 11), .inl (cy 0, 200, .inl mtold)), ((A 12), .inl (cy 0, 672, .inl mahead))] [(3, .int v1), (2, .int v2), (1, .int v3), (0, .ref (A 0))] 6 [] := by
    intro k6_76 hx76 n
    induction n with
    | zero => intro v1 v2 v3 hw; exact hw.elim
    | succ n ih =>
      intro v1 v2 v3 hw
      refine g_iload_n K 0 dX9_purity_6 rfl ?_
      refine g_aload_n K 3 dX9_purity_7 rfl ?_
      refine g_get K (C := RX9) (T := TX9) (N := 22) 0 0 in_X9_purity_X9 (by decide +kernel) rfl rfl (by decide) rfl dX9_purity_8 ?_
      refine g_iconst (v := 2) K dX9_purity_11 rfl ?_
      refine g_iald K 1 0 rfl rfl hw.1 dX9_purity_12 ?_
      replace hw := hw.2
      refine g_icmp_ge (tgt := 76) K dX9_purity_13 (by decide) (fun hc => ?_) (fun hc => ?_)
      · replace hw := hw.1 hc
        exact hx76 _ _ _ hw
      · replace hw := hw.2 hc
        refine g_iload_n K 2 dX9_purity_16 rfl ?_
        refine g_aload_n K 3 dX9_purity_17 rfl ?_
        refine g_get K (C := RX9) (T := TX9) (N := 22) 0 0 in_X9_purity_X9 (by decide +kernel) rfl rfl (by decide) rfl dX9_purity_18 ?_
        refine g_iload_n K 0 dX9_purity_21 rfl ?_
        refine g_bipush (v := 7) K dX9_purity_22 rfl ?_
        refine g_callSr (st' := fun u4 => [.int u4, .ref (A 1), .int v3]) K hR [.int v1, .int 7] [.ref (A 1), .int v3] (c_X9_baleAt X.2.1 (gxD X) cy sd v1 7 hw) gX9_purity_X9_baleAt rfl yok_X9_baleAt rfl (by decide) rfl (Nat.le_of_ble_eq_true rfl) dX9_purity_24 [] rfl (by decide) (fun _ => rfl) ⟨rfl, rfl⟩ (fun u4 hw => ?_)
        refine g_iald K 1 0 rfl rfl hw.1 dX9_purity_27 ?_
        replace hw := hw.2
        refine g_iconst (v := 2) K dX9_purity_28 rfl ?_
        refine g_icmp_ne (tgt := 36) K dX9_purity_29 (by decide) (fun hc => ?_) (fun hc => ?_)
        · replace hw := hw.2 hc
          refine g_aload_n K 3 dX9_purity_36 rfl ?_
          refine g_iload_n K 0 dX9_purity_37 rfl ?_
          refine g_callVr (st' := fun u5 => [.int u5, .int v3]) K hR [.int v1] [.int v3] 0 rfl rfl (c_X9_pure X.2.1 (gxD X) cy sd A mg mkept mspare mtrial mpast mreport mpart mcome morder mtext mtold mahead mhasKept mpasts mreports mthrown mordering mdetail mlength mspot mnumber mtolds v1 hw) gX9_purity_X9_pure rfl yok_X9_pure rfl rfl (by decide) rfl (Nat.le_of_ble_eq_true rfl) dX9_purity_38 [0, 1, 2, 3, 4, 5, 6, 7, 8, 9, 10, 11, 12] rfl (by decide) (fun _ => rfl) ⟨rfl, rfl⟩ (fun u5 hw => ?_)
          refine g_iadd K dX9_purity_41 ?_
          refine g_topi (fun x6 ex6 => ?_)
          replace hw := hw x6 ex6
          refine g_istore_n (lv' := [(1, .int x6), (3, .int v1), (2, .int v2), (0, .ref (A 0))]) K dX9_purity_42 rfl (by rw [En]; decide) rfl ?_
          refine g_iload_n K 2 dX9_purity_43 rfl ?_
          refine g_aload_n K 3 dX9_purity_44 rfl ?_
          refine g_get K (C := RX9) (T := TX9) (N := 22) 0 0 in_X9_purity_X9 (by decide +kernel) rfl rfl (by decide) rfl dX9_purity_45 ?_
          refine g_iload_n K 1 dX9_purity_48 rfl ?_
          refine g_bipush (v := 7) K dX9_purity_49 rfl ?_
          refine g_callSr (st' := fun u7 => [.int u7, .ref (A 1), .int v2]) K hR [.int v1, .int 7] [.ref (A 1), .int v2] (c_X9_baleAt X.2.1 (gxD X) cy sd v1 7 hw) gX9_purity_X9_baleAt rfl yok_X9_baleAt rfl (by decide) rfl (Nat.le_of_ble_eq_true rfl) dX9_purity_51 [] rfl (by decide) (fun _ => rfl) ⟨rfl, rfl⟩ (fun u7 hw => ?_)
          refine g_iald K 1 0 rfl rfl hw.1 dX9_purity_54 ?_
          replace hw := hw.2
          refine g_iconst (v := 2) K dX9_purity_55 rfl ?_
          refine g_icmp_ne (tgt := 63) K dX9_purity_56 (by decide) (fun hc => ?_) (fun hc => ?_)
          · replace hw := hw.2 hc
            refine g_aload_n K 3 dX9_purity_63 rfl ?_
            refine g_iload_n K 1 dX9_purity_64 rfl ?_
            refine g_callVr (st' := fun u8 => [.int u8, .int v2]) K hR [.int v1] [.int v2] 0 rfl rfl (c_X9_kilosOf X.2.1 (gxD X) cy sd A mg mkept mspare mtrial mpast mreport mpart mcome morder mtext mtold mahead mhasKept mpasts mreports mthrown mordering mdetail mlength mspot mnumber mtolds v1 hw) gX9_purity_X9_kilosOf rfl yok_X9_kilosOf rfl rfl (by decide) rfl (Nat.le_of_ble_eq_true rfl) dX9_purity_65 [0, 1, 2, 3, 4, 5, 6, 7, 8, 9, 10, 11, 12] rfl (by decide) (fun _ => rfl) ⟨rfl, rfl⟩ (fun u8 hw => ?_)
            refine g_iadd K dX9_purity_68 ?_
            refine g_topi (fun x9 ex9 => ?_)
            replace hw := hw x9 ex9
            refine g_istore_n (lv' := [(2, .int x9), (1, .int x6), (3, .int v1), (0, .ref (A 0))]) K dX9_purity_69 rfl (by rw [En]; decide) rfl ?_
            obtain ⟨x10, ex10⟩ : ∃ z : Int32, z = v1 + 1 := ⟨_, rfl⟩
            replace hw := hw x10 ex10
            refine g_iinc (v := x10) (lv' := [(3, .int x10), (2, .int x9), (1, .int x6), (0, .ref (A 0))]) K 2 dX9_purity_70 rfl (by rw [ex10]; rfl) (by rw [En]; decide) rfl ?_
            refine g_goto (tgt := 6) K dX9_purity_73 (by decide) ?_
            exact ih _ _ _ hw
          · replace hw := hw.1 hc
            refine g_iconst (v := 0) K dX9_purity_59 rfl ?_
            refine g_goto (tgt := 68) K dX9_purity_60 (by decide) ?_
            refine g_iadd K dX9_purity_68 ?_
            refine g_topi (fun x11 ex11 => ?_)
            replace hw := hw x11 ex11
            refine g_istore_n (lv' := [(2, .int x11), (1, .int x6), (3, .int v1), (0, .ref (A 0))]) K dX9_purity_69 rfl (by rw [En]; decide) rfl ?_
            obtain ⟨x12, ex12⟩ : ∃ z : Int32, z = v1 + 1 := ⟨_, rfl⟩
            replace hw := hw x12 ex12
            refine g_iinc (v := x12) (lv' := [(3, .int x12), (2, .int x11), (1, .int x6), (0, .ref (A 0))]) K 2 dX9_purity_70 rfl (by rw [ex12]; rfl) (by rw [En]; decide) rfl ?_
            refine g_goto (tgt := 6) K dX9_purity_73 (by decide) ?_
            exact ih _ _ _ hw
        · replace hw := hw.1 hc
          refine g_iconst (v := 0) K dX9_purity_32 rfl ?_
          refine g_goto (tgt := 41) K dX9_purity_33 (by decide) ?_
          refine g_iadd K dX9_purity_41 ?_
          refine g_topi (fun x13 ex13 => ?_)
          replace hw := hw x13 ex13
          refine g_istore_n (lv' := [(1, .int x13), (3, .int v1), (2, .int v2), (0, .ref (A 0))]) K dX9_purity_42 rfl (by rw [En]; decide) rfl ?_
          refine g_iload_n K 2 dX9_purity_43 rfl ?_
          refine g_aload_n K 3 dX9_purity_44 rfl ?_
          refine g_get K (C := RX9) (T := TX9) (N := 22) 0 0 in_X9_purity_X9 (by decide +kernel) rfl rfl (by decide) rfl dX9_purity_45 ?_
          refine g_iload_n K 1 dX9_purity_48 rfl ?_
          refine g_bipush (v := 7) K dX9_purity_49 rfl ?_
          refine g_callSr (st' := fun u14 => [.int u14, .ref (A 1), .int v2]) K hR [.int v1, .int 7] [.ref (A 1), .int v2] (c_X9_baleAt X.2.1 (gxD X) cy sd v1 7 hw) gX9_purity_X9_baleAt rfl yok_X9_baleAt rfl (by decide) rfl (Nat.le_of_ble_eq_true rfl) dX9_purity_51 [] rfl (by decide) (fun _ => rfl) ⟨rfl, rfl⟩ (fun u14 hw => ?_)
          refine g_iald K 1 0 rfl rfl hw.1 dX9_purity_54 ?_
          replace hw := hw.2
          refine g_iconst (v := 2) K dX9_purity_55 rfl ?_
          refine g_icmp_ne (tgt := 63) K dX9_purity_56 (by decide) (fun hc => ?_) (fun hc => ?_)
          · replace hw := hw.2 hc
            refine g_aload_n K 3 dX9_purity_63 rfl ?_
            refine g_iload_n K 1 dX9_purity_64 rfl ?_
            refine g_callVr (st' := fun u15 => [.int u15, .int v2]) K hR [.int v1] [.int v2] 0 rfl rfl (c_X9_kilosOf X.2.1 (gxD X) cy sd A mg mkept mspare mtrial mpast mreport mpart mcome morder mtext mtold mahead mhasKept mpasts mreports mthrown mordering mdetail mlength mspot mnumber mtolds v1 hw) gX9_purity_X9_kilosOf rfl yok_X9_kilosOf rfl rfl (by decide) rfl (Nat.le_of_ble_eq_true rfl) dX9_purity_65 [0, 1, 2, 3, 4, 5, 6, 7, 8, 9, 10, 11, 12] rfl (by decide) (fun _ => rfl) ⟨rfl, rfl⟩ (fun u15 hw => ?_)
            refine g_iadd K dX9_purity_68 ?_
            refine g_topi (fun x16 ex16 => ?_)
            replace hw := hw x16 ex16
            refine g_istore_n (lv' := [(2, .int x16), (1, .int x13), (3, .int v1), (0, .ref (A 0))]) K dX9_purity_69 rfl (by rw [En]; decide) rfl ?_
            obtain ⟨x17, ex17⟩ : ∃ z : Int32, z = v1 + 1 := ⟨_, rfl⟩
            replace hw := hw x17 ex17
            refine g_iinc (v := x17) (lv' := [(3, .int x17), (2, .int x16), (1, .int x13), (0, .ref (A 0))]) K 2 dX9_purity_70 rfl (by rw [ex17]; rfl) (by rw [En]; decide) rfl ?_
            refine g_goto (tgt := 6) K dX9_purity_73 (by decide) ?_
            exact ih _ _ _ hw
          · replace hw := hw.1 hc
            refine g_iconst (v := 0) K dX9_purity_59 rfl ?_
            refine g_goto (tgt := 68) K dX9_purity_60 (by decide) ?_
            refine g_iadd K dX9_purity_68 ?_
            refine g_topi (fun x18 ex18 => ?_)
            replace hw := hw x18 ex18
            refine g_istore_n (lv' := [(2, .int x18), (1, .int x13), (3, .int v1), (0, .ref (A 0))]) K dX9_purity_69 rfl (by rw [En]; decide) rfl ?_
            obtain ⟨x19, ex19⟩ : ∃ z : Int32, z = v1 + 1 := ⟨_, rfl⟩
            replace hw := hw x19 ex19
            refine g_iinc (v := x19) (lv' := [(3, .int x19), (2, .int x18), (1, .int x13), (0, .ref (A 0))]) K 2 dX9_purity_70 rfl (by rw [ex19]; rfl) (by rw [En]; decide) rfl ?_
            refine g_goto (tgt := 6) K dX9_purity_73 (by decide) ?_
            exact ih _ _ _ hw
  refine key _ (fun v20 v21 v22 hw => ?_) fl _ _ _ hw
  refine g_aload_n K 3 dX9_purity_76 rfl ?_
  refine g_iload_n K 1 dX9_purity_77 rfl ?_
  refine g_if_ne (tgt := 85) K dX9_purity_78 (by decide) (fun hc => ?_) (fun hc => ?_)
  · replace hw := hw.2 hc
    refine g_iconst (v := 0) K dX9_purity_85 rfl ?_
    refine g_put (ty := .int) (ws' := [((A 0), .inr (10, [.ref (A 1), .ref (A 2), .ref (A 3), .ref (A 4), .int mhasKept, .ref (A 5), .int mpasts, .ref (A 6), .int mreports, .int 0, .ref (A 7), .ref (A 8), .ref (A 9), .int mordering, .int mdetail, .ref (A 10), .int mlength, .int mspot, .int mnumber, .ref (A 11), .int mtolds, .ref (A 12)])), ((A 1), .inl (cy 0, 672, .inl mg)), ((A 2), .inl (cy 0, 672, .inl mkept)), ((A 3), .inl (cy 0, 672, .inl mspare)), ((A 4), .inl (cy 0, 672, .inl mtrial)), ((A 5), .inl (cy 0, 5376, .inl mpast)), ((A 6), .inl (cy 0, 6, .inl mreport)), ((A 7), .inl (cy 0, 5, .inl mpart)), ((A 8), .inl (cy 0, 5, .inl mcome)), ((A 9), .inl (cy 0, 60, .inl morder)), ((A 10), .inl (cy 0, 80, .inl mtext)), ((A 11), .inl (cy 0, 200, .inl mtold)), ((A 12), .inl (cy 0, 672, .inl mahead))]) K (C := RX9) (T := TX9) (N := 22) 0 9 in_X9_purity_X9 tyX9 tyX9_ok nmX9 (by decide +kernel) rfl rfl (by decide) rfl (by decide +kernel) rfl rfl (Nat.le_of_ble_eq_true rfl) rfl dX9_purity_86 ?_
    refine g_iload_n K 1 dX9_purity_89 rfl ?_
    refine g_if_ne (tgt := 97) K dX9_purity_90 (by decide) (fun hc => ?_) (fun hc => ?_)
    · replace hw := hw.2 hc
      refine g_iload_n K 2 dX9_purity_97 rfl ?_
      refine g_i2d K dX9_purity_98 ?_
      refine g_iload_n K 1 dX9_purity_99 rfl ?_
      refine g_i2d K dX9_purity_100 ?_
      refine g_ddiv K dX9_purity_101 hw.1 ?_
      replace hw := hw.2
      exact g_dret K E Er (FP.ddiv (FP.i2d v22) (FP.i2d v21), 0) hw rfl rfl (Nat.le_refl _) (Nat.le_refl _) dX9_purity_102
    · replace hw := hw.1 hc
      refine g_dconst0 K dX9_purity_93 ?_
      refine g_goto (tgt := 102) K dX9_purity_94 (by decide) ?_
      exact g_dret K E Er (FP.dconst0, 0) hw rfl rfl (Nat.le_refl _) (Nat.le_refl _) dX9_purity_102
  · replace hw := hw.1 hc
    refine g_iconst (v := 1) K dX9_purity_81 rfl ?_
    refine g_goto (tgt := 86) K dX9_purity_82 (by decide) ?_
    refine g_put (ty := .int) (ws' := [((A 0), .inr (10, [.ref (A 1), .ref (A 2), .ref (A 3), .ref (A 4), .int mhasKept, .ref (A 5), .int mpasts, .ref (A 6), .int mreports, .int 1, .ref (A 7), .ref (A 8), .ref (A 9), .int mordering, .int mdetail, .ref (A 10), .int mlength, .int mspot, .int mnumber, .ref (A 11), .int mtolds, .ref (A 12)])), ((A 1), .inl (cy 0, 672, .inl mg)), ((A 2), .inl (cy 0, 672, .inl mkept)), ((A 3), .inl (cy 0, 672, .inl mspare)), ((A 4), .inl (cy 0, 672, .inl mtrial)), ((A 5), .inl (cy 0, 5376, .inl mpast)), ((A 6), .inl (cy 0, 6, .inl mreport)), ((A 7), .inl (cy 0, 5, .inl mpart)), ((A 8), .inl (cy 0, 5, .inl mcome)), ((A 9), .inl (cy 0, 60, .inl morder)), ((A 10), .inl (cy 0, 80, .inl mtext)), ((A 11), .inl (cy 0, 200, .inl mtold)), ((A 12), .inl (cy 0, 672, .inl mahead))]) K (C := RX9) (T := TX9) (N := 22) 0 9 in_X9_purity_X9 tyX9 tyX9_ok nmX9 (by decide +kernel) rfl rfl (by decide) rfl (by decide +kernel) rfl rfl (Nat.le_of_ble_eq_true rfl) rfl dX9_purity_86 ?_
    refine g_iload_n K 1 dX9_purity_89 rfl ?_
    refine g_if_ne (tgt := 97) K dX9_purity_90 (by decide) (fun hc => ?_) (fun hc => ?_)
    · replace hw := hw.2 hc
      refine g_iload_n K 2 dX9_purity_97 rfl ?_
      refine g_i2d K dX9_purity_98 ?_
      refine g_iload_n K 1 dX9_purity_99 rfl ?_
      refine g_i2d K dX9_purity_100 ?_
      refine g_ddiv K dX9_purity_101 hw.1 ?_
      replace hw := hw.2
      exact g_dret K E Er (FP.ddiv (FP.i2d v22) (FP.i2d v21), 1) hw rfl rfl (Nat.le_refl _) (Nat.le_refl _) dX9_purity_102
    · replace hw := hw.1 hc
      refine g_dconst0 K dX9_purity_93 ?_
      refine g_goto (tgt := 102) K dX9_purity_94 (by decide) ?_
      exact g_dret K E Er (FP.dconst0, 1) hw rfl rfl (Nat.le_refl _) (Nat.le_refl _) dX9_purity_102

def wp_X9_wasted (mg : XRow) (p0 : Int32) (post : (UInt32 × Int32) → Prop) : Prop := wp_X9_isMaterial p0 (fun u1 : Bool => (u1 = true → (vp_in (21 + p0) 672 ∧ (((mg (21 + p0).toNatClampNeg) = 0 → (post (FP.fconst0, 2))) ∧ (¬ (mg (21 + p0).toNatClampNeg) = 0 → (vp_in (16 + p0) 672 ∧ (vp_in (21 + p0) 672 ∧ (vf_n32 (FP.fdiv (FP.i2f (mg (16 + p0).toNatClampNeg)) (FP.i2f (mg (21 + p0).toNatClampNeg))) ∧ (post (FP.fdiv (FP.i2f (mg (16 + p0).toNatClampNeg)) (FP.i2f (mg (21 + p0).toNatClampNeg)), 0))))))))) ∧ (u1 = false → (post (FP.fconst0, 1))))
theorem in_X9_wasted_X9 : ∀ w ∈ u_ws RX9 TX9 22, w ∈ wsX9_wasted := by decide +kernel
set_option maxRecDepth 100000 in
set_option maxHeartbeats 4000000 in
theorem c_X9_wasted (l : Launch) (D : va_G) (cy : Nat → ClassId) (sd : xSd) (A : Nat → Nat) (mg : XRow) (mkept : XRow) (mspare : XRow) (mtrial : XRow) (mpast : XRow) (mreport : XRow) (mpart : XRow) (mcome : XRow) (morder : XRow) (mtext : XRow) (mtold : XRow) (mahead : XRow) (mhasKept : Int32) (mpasts : Int32) (mreports : Int32) (mthrown : Int32) (mordering : Int32) (mdetail : Int32) (mlength : Int32) (mspot : Int32) (mnumber : Int32) (mtolds : Int32) (p0 : Int32) {post : (UInt32 × Int32) → Prop} (hw : wp_X9_wasted mg p0 post) : Ctr l D (xTys cy) sd yX9_wasted wsX9_wasted ({ frames := 2, cells := 0, slots := 0, locals := 42 } : Room) [.ref (A 0), .int p0] (fun u : UInt32 × Int32 => some (.float u.1)) [((A 0), .inr (10, [.ref (A 1), .ref (A 2), .ref (A 3), .ref (A 4), .int mhasKept, .ref (A 5), .int mpasts, .ref (A 6), .int mreports, .int mthrown, .ref (A 7), .ref (A 8), .ref (A 9), .int mordering, .int mdetail, .ref (A 10), .int mlength, .int mspot, .int mnumber, .ref (A 11), .int mtolds, .ref (A 12)])), ((A 1), .inl (cy 0, 672, .inl mg)), ((A 2), .inl (cy 0, 672, .inl mkept)), ((A 3), .inl (cy 0, 672, .inl mspare)), ((A 4), .inl (cy 0, 672, .inl mtrial)), ((A 5), .inl (cy 0, 5376, .inl mpast)), ((A 6), .inl (cy 0, 6, .inl mreport)), ((A 7), .inl (cy 0, 5, .inl mpart)), ((A 8), .inl (cy 0, 5, .inl mcome)), ((A 9), .inl (cy 0, 60, .inl morder)), ((A 10), .inl (cy 0, 80, .inl mtext)), ((A 11), .inl (cy 0, 200, .inl mtold)), ((A 12), .inl (cy 0, 672, .inl mahead))] (fun u => [((A 0), .inr (10, [.ref (A 1), .ref (A 2), .ref (A 3), .ref (A 4), .int mhasKept, .ref (A 5), .int mpasts, .ref (A 6), .int mreports, .int u.2, .ref (A 7), .ref (A 8), .ref (A 9), .int mordering, .int mdetail, .ref (A 10), .int mlength, .int mspot, .int mnumber, .ref (A 11), .int mtolds, .ref (A 12)])), ((A 1), .inl (cy 0, 672, .inl mg)), ((A 2), .inl (cy 0, 672, .inl mkept)), ((A 3), .inl (cy 0, 672, .inl mspare)), ((A 4), .inl (cy 0, 672, .inl mtrial)), ((A 5), .inl (cy 0, 5376, .inl mpast)), ((A 6), .inl (cy 0, 6, .inl mreport)), ((A 7), .inl (cy 0, 5, .inl mpart)), ((A 8), .inl (cy 0, 5, .inl mcome)), ((A 9), .inl (cy 0, 60, .inl morder)), ((A 10), .inl (cy 0, 80, .inl mtext)), ((A 11), .inl (cy 0, 200, .inl mtold)), ((A 12), .inl (cy 0, 672, .inl mahead))]) post := by
  refine Ctr.of (cc := cX9_wasted) (maxL := 2) (ret := (some .float)) (lv0 := [(0, .ref (A 0)), (1, .int p0)]) (by decide) rfl (Nat.le_of_ble_eq_true rfl) rfl ?_
  intro X El hR Er Enm ED E En K
  have K : Cx X cX9_wasted RX9 wsX9_wasted (xTys cy) sd := K
  have E : X.2.2.2.2.2.2.2.2.2.2.1 = xMQ X (fun u : UInt32 × Int32 => some (.float u.1)) post (fun u => [((A 0), .inr (10, [.ref (A 1), .ref (A 2), .ref (A 3), .ref (A 4), .int mhasKept, .ref (A 5), .int mpasts, .ref (A 6), .int mreports, .int u.2, .ref (A 7), .ref (A 8), .ref (A 9), .int mordering, .int mdetail, .ref (A 10), .int mlength, .int mspot, .int mnumber, .ref (A 11), .int mtolds, .ref (A 12)])), ((A 1), .inl (cy 0, 672, .inl mg)), ((A 2), .inl (cy 0, 672, .inl mkept)), ((A 3), .inl (cy 0, 672, .inl mspare)), ((A 4), .inl (cy 0, 672, .inl mtrial)), ((A 5), .inl (cy 0, 5376, .inl mpast)), ((A 6), .inl (cy 0, 6, .inl mreport)), ((A 7), .inl (cy 0, 5, .inl mpart)), ((A 8), .inl (cy 0, 5, .inl mcome)), ((A 9), .inl (cy 0, 60, .inl morder)), ((A 10), .inl (cy 0, 80, .inl mtext)), ((A 11), .inl (cy 0, 200, .inl mtold)), ((A 12), .inl (cy 0, 672, .inl mahead))]) 0 0 := E
  unfold wp_X9_wasted at hw
  refine g_aload_n K 0 dX9_wasted_0 rfl ?_
  refine g_iload_n K 1 dX9_wasted_1 rfl ?_
  refine g_callSr (st' := fun u1 => [.int (bI u1), .ref (A 0)]) K hR [.int p0] [.ref (A 0)] (c_X9_isMaterial X.2.1 (gxD X) cy sd p0 hw) gX9_wasted_X9_isMaterial rfl yok_X9_isMaterial rfl (by decide) rfl (Nat.le_of_ble_eq_true rfl) dX9_wasted_2 [] rfl (by decide) (fun _ => rfl) ⟨rfl, rfl⟩ (fun u1 hw => ?_)
  refine g_ifb_eq (tgt := 28) K dX9_wasted_5 (by decide) (fun hc => ?_) (fun hc => ?_)
  · replace hw := hw.2 hc
    refine g_iconst (v := 1) K dX9_wasted_28 rfl ?_
    refine g_put (ty := .int) (ws' := [((A 0), .inr (10, [.ref (A 1), .ref (A 2), .ref (A 3), .ref (A 4), .int mhasKept, .ref (A 5), .int mpasts, .ref (A 6), .int mreports, .int 1, .ref (A 7), .ref (A 8), .ref (A 9), .int mordering, .int mdetail, .ref (A 10), .int mlength, .int mspot, .int mnumber, .ref (A 11), .int mtolds, .ref (A 12)])), ((A 1), .inl (cy 0, 672, .inl mg)), ((A 2), .inl (cy 0, 672, .inl mkept)), ((A 3), .inl (cy 0, 672, .inl mspare)), ((A 4), .inl (cy 0, 672, .inl mtrial)), ((A 5), .inl (cy 0, 5376, .inl mpast)), ((A 6), .inl (cy 0, 6, .inl mreport)), ((A 7), .inl (cy 0, 5, .inl mpart)), ((A 8), .inl (cy 0, 5, .inl mcome)), ((A 9), .inl (cy 0, 60, .inl morder)), ((A 10), .inl (cy 0, 80, .inl mtext)), ((A 11), .inl (cy 0, 200, .inl mtold)), ((A 12), .inl (cy 0, 672, .inl mahead))]) K (C := RX9) (T := TX9) (N := 22) 0 9 in_X9_wasted_X9 tyX9 tyX9_ok nmX9 (by decide +kernel) rfl rfl (by decide) rfl (by decide +kernel) rfl rfl (Nat.le_of_ble_eq_true rfl) rfl dX9_wasted_29 ?_
    refine g_aload_n K 0 dX9_wasted_32 rfl ?_
    refine g_get K (C := RX9) (T := TX9) (N := 22) 0 9 in_X9_wasted_X9 (by decide +kernel) rfl rfl (by decide) rfl dX9_wasted_33 ?_
    refine g_if_le (tgt := 43) K dX9_wasted_36 (by decide) (fun hc => absurd hc (by decide)) (fun _ => ?_)
    refine g_fconst0 K dX9_wasted_39 ?_
    refine g_goto (tgt := 64) K dX9_wasted_40 (by decide) ?_
    exact g_fret K E Er (FP.fconst0, 1) hw rfl rfl (Nat.le_refl _) (Nat.le_refl _) dX9_wasted_64
  · replace hw := hw.1 hc
    refine g_aload_n K 0 dX9_wasted_8 rfl ?_
    refine g_get K (C := RX9) (T := TX9) (N := 22) 0 0 in_X9_wasted_X9 (by decide +kernel) rfl rfl (by decide) rfl dX9_wasted_9 ?_
    refine g_bipush (v := 21) K dX9_wasted_12 rfl ?_
    refine g_iload_n K 1 dX9_wasted_14 rfl ?_
    refine g_iadd K dX9_wasted_15 ?_
    refine g_iald K 1 0 rfl rfl hw.1 dX9_wasted_16 ?_
    replace hw := hw.2
    refine g_if_ne (tgt := 24) K dX9_wasted_17 (by decide) (fun hc => ?_) (fun hc => ?_)
    · replace hw := hw.2 hc
      refine g_iconst (v := 0) K dX9_wasted_24 rfl ?_
      refine g_goto (tgt := 29) K dX9_wasted_25 (by decide) ?_
      refine g_put (ty := .int) (ws' := [((A 0), .inr (10, [.ref (A 1), .ref (A 2), .ref (A 3), .ref (A 4), .int mhasKept, .ref (A 5), .int mpasts, .ref (A 6), .int mreports, .int 0, .ref (A 7), .ref (A 8), .ref (A 9), .int mordering, .int mdetail, .ref (A 10), .int mlength, .int mspot, .int mnumber, .ref (A 11), .int mtolds, .ref (A 12)])), ((A 1), .inl (cy 0, 672, .inl mg)), ((A 2), .inl (cy 0, 672, .inl mkept)), ((A 3), .inl (cy 0, 672, .inl mspare)), ((A 4), .inl (cy 0, 672, .inl mtrial)), ((A 5), .inl (cy 0, 5376, .inl mpast)), ((A 6), .inl (cy 0, 6, .inl mreport)), ((A 7), .inl (cy 0, 5, .inl mpart)), ((A 8), .inl (cy 0, 5, .inl mcome)), ((A 9), .inl (cy 0, 60, .inl morder)), ((A 10), .inl (cy 0, 80, .inl mtext)), ((A 11), .inl (cy 0, 200, .inl mtold)), ((A 12), .inl (cy 0, 672, .inl mahead))]) K (C := RX9) (T := TX9) (N := 22) 0 9 in_X9_wasted_X9 tyX9 tyX9_ok nmX9 (by decide +kernel) rfl rfl (by decide) rfl (by decide +kernel) rfl rfl (Nat.le_of_ble_eq_true rfl) rfl dX9_wasted_29 ?_
      refine g_aload_n K 0 dX9_wasted_32 rfl ?_
      refine g_get K (C := RX9) (T := TX9) (N := 22) 0 9 in_X9_wasted_X9 (by decide +kernel) rfl rfl (by decide) rfl dX9_wasted_33 ?_
      refine g_if_le (tgt := 43) K dX9_wasted_36 (by decide) (fun _ => ?_) (fun hc => absurd (by decide) hc)
      refine g_aload_n K 0 dX9_wasted_43 rfl ?_
      refine g_get K (C := RX9) (T := TX9) (N := 22) 0 0 in_X9_wasted_X9 (by decide +kernel) rfl rfl (by decide) rfl dX9_wasted_44 ?_
      refine g_bipush (v := 16) K dX9_wasted_47 rfl ?_
      refine g_iload_n K 1 dX9_wasted_49 rfl ?_
      refine g_iadd K dX9_wasted_50 ?_
      refine g_iald K 1 0 rfl rfl hw.1 dX9_wasted_51 ?_
      replace hw := hw.2
      refine g_i2f K dX9_wasted_52 ?_
      refine g_aload_n K 0 dX9_wasted_53 rfl ?_
      refine g_get K (C := RX9) (T := TX9) (N := 22) 0 0 in_X9_wasted_X9 (by decide +kernel) rfl rfl (by decide) rfl dX9_wasted_54 ?_
      refine g_bipush (v := 21) K dX9_wasted_57 rfl ?_
      refine g_iload_n K 1 dX9_wasted_59 rfl ?_
      refine g_iadd K dX9_wasted_60 ?_
      refine g_iald K 1 0 rfl rfl hw.1 dX9_wasted_61 ?_
      replace hw := hw.2
      refine g_i2f K dX9_wasted_62 ?_
      refine g_fdiv K dX9_wasted_63 hw.1 ?_
      replace hw := hw.2
      exact g_fret K E Er (FP.fdiv (FP.i2f (mg (16 + p0).toNatClampNeg)) (FP.i2f (mg (21 + p0).toNatClampNeg)), 0) hw rfl rfl (Nat.le_refl _) (Nat.le_refl _) dX9_wasted_64
    · replace hw := hw.1 hc
      refine g_iconst (v := 2) K dX9_wasted_20 rfl ?_
      refine g_goto (tgt := 29) K dX9_wasted_21 (by decide) ?_
      refine g_put (ty := .int) (ws' := [((A 0), .inr (10, [.ref (A 1), .ref (A 2), .ref (A 3), .ref (A 4), .int mhasKept, .ref (A 5), .int mpasts, .ref (A 6), .int mreports, .int 2, .ref (A 7), .ref (A 8), .ref (A 9), .int mordering, .int mdetail, .ref (A 10), .int mlength, .int mspot, .int mnumber, .ref (A 11), .int mtolds, .ref (A 12)])), ((A 1), .inl (cy 0, 672, .inl mg)), ((A 2), .inl (cy 0, 672, .inl mkept)), ((A 3), .inl (cy 0, 672, .inl mspare)), ((A 4), .inl (cy 0, 672, .inl mtrial)), ((A 5), .inl (cy 0, 5376, .inl mpast)), ((A 6), .inl (cy 0, 6, .inl mreport)), ((A 7), .inl (cy 0, 5, .inl mpart)), ((A 8), .inl (cy 0, 5, .inl mcome)), ((A 9), .inl (cy 0, 60, .inl morder)), ((A 10), .inl (cy 0, 80, .inl mtext)), ((A 11), .inl (cy 0, 200, .inl mtold)), ((A 12), .inl (cy 0, 672, .inl mahead))]) K (C := RX9) (T := TX9) (N := 22) 0 9 in_X9_wasted_X9 tyX9 tyX9_ok nmX9 (by decide +kernel) rfl rfl (by decide) rfl (by decide +kernel) rfl rfl (Nat.le_of_ble_eq_true rfl) rfl dX9_wasted_29 ?_
      refine g_aload_n K 0 dX9_wasted_32 rfl ?_
      refine g_get K (C := RX9) (T := TX9) (N := 22) 0 9 in_X9_wasted_X9 (by decide +kernel) rfl rfl (by decide) rfl dX9_wasted_33 ?_
      refine g_if_le (tgt := 43) K dX9_wasted_36 (by decide) (fun hc => absurd hc (by decide)) (fun _ => ?_)
      refine g_fconst0 K dX9_wasted_39 ?_
      refine g_goto (tgt := 64) K dX9_wasted_40 (by decide) ?_
      exact g_fret K E Er (FP.fconst0, 2) hw rfl rfl (Nat.le_refl _) (Nat.le_refl _) dX9_wasted_64
