theorem yok_X4_copyFrom : yOk yX4_copyFrom 1 := by decide +kernel
theorem yok_X4_setting : yOk yX4_setting 1 := by decide +kernel
theorem yok_X4_addLast : yOk yX4_addLast 5 := by decide +kernel
theorem yok_X4_removeLast : yOk yX4_removeLast 0 := by decide +kernel
theorem yok_X4_rateOf : yOk yX4_rateOf 3 := by decide +kernel
theorem yok_X4_faultOfFeed : yOk yX4_faultOfFeed 2 := by decide +kernel
theorem yok_X4_fill : yOk yX4_fill 2 := by decide +kernel
theorem yok_X4_faultOfPasses : yOk yX4_faultOfPasses 1 := by decide +kernel
theorem yok_X4_takeShare : yOk yX4_takeShare 4 := by decide +kernel
theorem yok_X4_sortOut : yOk yX4_sortOut 1 := by decide +kernel
theorem yok_X4_clearBelt : yOk yX4_clearBelt 0 := by decide +kernel
theorem yok_X4_sampledPurity : yOk yX4_sampledPurity 3 := by decide +kernel
theorem yok_X4_makeBale : yOk yX4_makeBale 3 := by decide +kernel
theorem yok_X4_makePass : yOk yX4_makePass 0 := by decide +kernel
theorem yok_X4_makePasses : yOk yX4_makePasses 1 := by decide +kernel
theorem yok_X4_buyerOf : yOk yX4_buyerOf 1 := by decide +kernel
theorem yok_X4_refusalOf : yOk yX4_refusalOf 1 := by decide +kernel
theorem yok_X4_detailOf : yOk yX4_detailOf 2 := by decide +kernel
theorem yok_X4_handOver : yOk yX4_handOver 1 := by decide +kernel
theorem yok_X4_handOverAll : yOk yX4_handOverAll 0 := by decide +kernel
theorem yok_X4_kilosInBunkers : yOk yX4_kilosInBunkers 0 := by decide +kernel
theorem yok_X4_paid : yOk yX4_paid 0 := by decide +kernel
theorem yok_X4_accountOf : yOk yX4_accountOf 1 := by decide +kernel
def wp_X4_copyFrom (dS : XRow) (dM : XRow) (dP : XRow) (dN : XRow) (dC : XRow) (dSb : XRow) (dMb : XRow) (dPb : XRow) (dNb : XRow) (dBcb : Int32) (dCb : XRow) (dCcb : Int32) (dMcb : Int32) (dZb : Int32) (dPcb : Int32) (post : (Int32 × Int32 × Int32 × XRow × XRow × XRow × Int32 × XRow × Int32 × XRow) → Prop) : Prop := wp_X6_copyFrom 5 dS 5 dSb (fun u1 : XRow => wp_X6_copyFrom 42 dM 42 dMb (fun u2 : XRow => wp_X6_copyFrom 50 dP 50 dPb (fun u3 : XRow => wp_X0_copyFrom dN dNb dBcb (fun u4 : Int32 × XRow => wp_X1_copyFrom dC dCb dCcb (fun u5 : Int32 × XRow => post (dMcb, dZb, dPcb, u1, u2, u3, u4.1, u4.2, u5.1, u5.2))))))
theorem in_X4_copyFrom_X4 : ∀ w ∈ u_ws RX4 TX4 9, w ∈ wsX4_copyFrom := by decide +kernel
set_option maxRecDepth 100000 in
set_option maxHeartbeats 4000000 in
theorem c_X4_copyFrom (l : Launch) (D : va_G) (cy : Nat → ClassId) (sd : xSd) (A : Nat → Nat) (B : Nat → Nat) (dS : XRow) (dM : XRow) (dP : XRow) (dN : XRow) (dBc : Int32) (dO : XRow) (dC : XRow) (dCc : Int32) (dR : XRow) (dMc : Int32) (dZ : Int32) (dPc : Int32) (dSb : XRow) (dMb : XRow) (dPb : XRow) (dNb : XRow) (dBcb : Int32) (dOb : XRow) (dCb : XRow) (dCcb : Int32) (dRb : XRow) (dMcb : Int32) (dZb : Int32) (dPcb : Int32) {post : (Int32 × Int32 × Int32 × XRow × XRow × XRow × Int32 × XRow × Int32 × XRow) → Prop} (hw : wp_X4_copyFrom dS dM dP dN dC dSb dMb dPb dNb dBcb dCb dCcb dMcb dZb dPcb post) : Ctr l D (xTys cy) sd yX4_copyFrom wsX4_copyFrom ({ frames := 3, cells := 0, slots := 0, locals := 102 } : Room) [.ref (A 0), .ref (B 0)] (fun u : Int32 × Int32 × Int32 × XRow × XRow × XRow × Int32 × XRow × Int32 × XRow => none) [((A 0), .inr (5, [.ref (A 1), .ref (A 3), .ref (A 5), .ref (A 7), .ref (A 12), .ref (A 15), .int dMc, .int dZ, .int dPc])), ((A 1), .inr (7, [.int 5, .ref (A 2)])), ((A 2), .inl (cy 0, 5, .inl dS)), ((A 3), .inr (7, [.int 7, .ref (A 4)])), ((A 4), .inl (cy 0, 42, .inl dM)), ((A 5), .inr (7, [.int 5, .ref (A 6)])), ((A 6), .inl (cy 0, 50, .inl dP)), ((A 7), .inr (2, [.ref (A 8), .ref (A 10), .int dBc])), ((A 8), .inr (7, [.int 12, .ref (A 9)])), ((A 9), .inl (cy 0, 720, .inl dN)), ((A 10), .inr (7, [.int 60, .ref (A 11)])), ((A 11), .inl (cy 0, 60, .inl dO)), ((A 12), .inr (3, [.ref (A 13), .int dCc])), ((A 13), .inr (7, [.int 5, .ref (A 14)])), ((A 14), .inl (cy 0, 40, .inl dC)), ((A 15), .inr (7, [.int 5, .ref (A 16)])), ((A 16), .inl (cy 0, 5, .inl dR)), ((B 0), .inr (5, [.ref (B 1), .ref (B 3), .ref (B 5), .ref (B 7), .ref (B 12), .ref (B 15), .int dMcb, .int dZb, .int dPcb])), ((B 1), .inr (7, [.int 5, .ref (B 2)])), ((B 2), .inl (cy 0, 5, .inl dSb)), ((B 3), .inr (7, [.int 7, .ref (B 4)])), ((B 4), .inl (cy 0, 42, .inl dMb)), ((B 5), .inr (7, [.int 5, .ref (B 6)])), ((B 6), .inl (cy 0, 50, .inl dPb)), ((B 7), .inr (2, [.ref (B 8), .ref (B 10), .int dBcb])), ((B 8), .inr (7, [.int 12, .ref (B 9)])), ((B 9), .inl (cy 0, 720, .inl dNb)), ((B 10), .inr (7, [.int 60, .ref (B 11)])), ((B 11), .inl (cy 0, 60, .inl dOb)), ((B 12), .inr (3, [.ref (B 13), .int dCcb])), ((B 13), .inr (7, [.int 5, .ref (B 14)])), ((B 14), .inl (cy 0, 40, .inl dCb)), ((B 15), .inr (7, [.int 5, .ref (B 16)])), ((B 16), .inl (cy 0, 5, .inl dRb))] (fun u => [((A 0), .inr (5, [.ref (A 1), .ref (A 3), .ref (A 5), .ref (A 7), .ref (A 12), .ref (A 15), .int u.1, .int u.2.1, .int u.2.2.1])), ((A 1), .inr (7, [.int 5, .ref (A 2)])), ((A 2), .inl (cy 0, 5, .inl u.2.2.2.1)), ((A 3), .inr (7, [.int 7, .ref (A 4)])), ((A 4), .inl (cy 0, 42, .inl u.2.2.2.2.1)), ((A 5), .inr (7, [.int 5, .ref (A 6)])), ((A 6), .inl (cy 0, 50, .inl u.2.2.2.2.2.1)), ((A 7), .inr (2, [.ref (A 8), .ref (A 10), .int u.2.2.2.2.2.2.1])), ((A 8), .inr (7, [.int 12, .ref (A 9)])), ((A 9), .inl (cy 0, 720, .inl u.2.2.2.2.2.2.2.1)), ((A 10), .inr (7, [.int 60, .ref (A 11)])), ((A 11), .inl (cy 0, 60, .inl dO)), ((A 12), .inr (3, [.ref (A 13), .int u.2.2.2.2.2.2.2.2.1])), ((A 13), .inr (7, [.int 5, .ref (A 14)])), ((A 14), .inl (cy 0, 40, .inl u.2.2.2.2.2.2.2.2.2)), ((A 15), .inr (7, [.int 5, .ref (A 16)])), ((A 16), .inl (cy 0, 5, .inl dR)), ((B 0), .inr (5, [.ref (B 1), .ref (B 3), .ref (B 5), .ref (B 7), .ref (B 12), .ref (B 15), .int dMcb, .int dZb, .int dPcb])), ((B 1), .inr (7, [.int 5, .ref (B 2)])), ((B 2), .inl (cy 0, 5, .inl dSb)), ((B 3), .inr (7, [.int 7, .ref (B 4)])), ((B 4), .inl (cy 0, 42, .inl dMb)), ((B 5), .inr (7, [.int 5, .ref (B 6)])), ((B 6), .inl (cy 0, 50, .inl dPb)), ((B 7), .inr (2, [.ref (B 8), .ref (B 10), .int dBcb])), ((B 8), .inr (7, [.int 12, .ref (B 9)])), ((B 9), .inl (cy 0, 720, .inl dNb)), ((B 10), .inr (7, [.int 60, .ref (B 11)])), ((B 11), .inl (cy 0, 60, .inl dOb)), ((B 12), .inr (3, [.ref (B 13), .int dCcb])), ((B 13), .inr (7, [.int 5, .ref (B 14)])), ((B 14), .inl (cy 0, 40, .inl dCb)), ((B 15), .inr (7, [.int 5, .ref (B 16)])), ((B 16), .inl (cy 0, 5, .inl dRb))]) post := by
  refine Ctr.of (cc := cX4_copyFrom) (maxL := 2) (ret := none) (lv0 := [(0, .ref (A 0)), (1, .ref (B 0))]) (by decide) rfl (Nat.le_of_ble_eq_true rfl) rfl ?_
  intro X El hR Er Enm ED E En K
  have K : Cx X cX4_copyFrom RX4 wsX4_copyFrom (xTys cy) sd := K
  have E : X.2.2.2.2.2.2.2.2.2.2.1 = xMQ X (fun u : Int32 × Int32 × Int32 × XRow × XRow × XRow × Int32 × XRow × Int32 × XRow => none) post (fun u => [((A 0), .inr (5, [.ref (A 1), .ref (A 3), .ref (A 5), .ref (A 7), .ref (A 12), .ref (A 15), .int u.1, .int u.2.1, .int u.2.2.1])), ((A 1), .inr (7, [.int 5, .ref (A 2)])), ((A 2), .inl (cy 0, 5, .inl u.2.2.2.1)), ((A 3), .inr (7, [.int 7, .ref (A 4)])), ((A 4), .inl (cy 0, 42, .inl u.2.2.2.2.1)), ((A 5), .inr (7, [.int 5, .ref (A 6)])), ((A 6), .inl (cy 0, 50, .inl u.2.2.2.2.2.1)), ((A 7), .inr (2, [.ref (A 8), .ref (A 10), .int u.2.2.2.2.2.2.1])), ((A 8), .inr (7, [.int 12, .ref (A 9)])), ((A 9), .inl (cy 0, 720, .inl u.2.2.2.2.2.2.2.1)), ((A 10), .inr (7, [.int 60, .ref (A 11)])), ((A 11), .inl (cy 0, 60, .inl dO)), ((A 12), .inr (3, [.ref (A 13), .int u.2.2.2.2.2.2.2.2.1])), ((A 13), .inr (7, [.int 5, .ref (A 14)])), ((A 14), .inl (cy 0, 40, .inl u.2.2.2.2.2.2.2.2.2)), ((A 15), .inr (7, [.int 5, .ref (A 16)])), ((A 16), .inl (cy 0, 5, .inl dR)), ((B 0), .inr (5, [.ref (B 1), .ref (B 3), .ref (B 5), .ref (B 7), .ref (B 12), .ref (B 15), .int dMcb, .int dZb, .int dPcb])), ((B 1), .inr (7, [.int 5, .ref (B 2)])), ((B 2), .inl (cy 0, 5, .inl dSb)), ((B 3), .inr (7, [.int 7, .ref (B 4)])), ((B 4), .inl (cy 0, 42, .inl dMb)), ((B 5), .inr (7, [.int 5, .ref (B 6)])), ((B 6), .inl (cy 0, 50, .inl dPb)), ((B 7), .inr (2, [.ref (B 8), .ref (B 10), .int dBcb])), ((B 8), .inr (7, [.int 12, .ref (B 9)])), ((B 9), .inl (cy 0, 720, .inl dNb)), ((B 10), .inr (7, [.int 60, .ref (B 11)])), ((B 11), .inl (cy 0, 60, .inl dOb)), ((B 12), .inr (3, [.ref (B 13), .int dCcb])), ((B 13), .inr (7, [.int 5, .ref (B 14)])), ((B 14), .inl (cy 0, 40, .inl dCb)), ((B 15), .inr (7, [.int 5, .ref (B 16)])), ((B 16), .inl (cy 0, 5, .inl dRb))]) 0 0 := E
  unfold wp_X4_copyFrom at hw
  refine g_aload_n K 0 dX4_copyFrom_0 rfl ?_
  refine g_get K (C := RX4) (T := TX4) (N := 9) 0 0 in_X4_copyFrom_X4 (by decide +kernel) rfl rfl (by decide) rfl dX4_copyFrom_1 ?_
  refine g_aload_n K 1 dX4_copyFrom_4 rfl ?_
  refine g_get K (C := RX4) (T := TX4) (N := 9) 17 0 in_X4_copyFrom_X4 (by decide +kernel) rfl rfl (by decide) rfl dX4_copyFrom_5 ?_
  refine g_callV (st' := fun u1 => []) (ws' := fun u1 => [((A 0), .inr (5, [.ref (A 1), .ref (A 3), .ref (A 5), .ref (A 7), .ref (A 12), .ref (A 15), .int dMc, .int dZ, .int dPc])), ((A 1), .inr (7, [.int 5, .ref (A 2)])), ((A 2), .inl (cy 0, 5, .inl u1)), ((A 3), .inr (7, [.int 7, .ref (A 4)])), ((A 4), .inl (cy 0, 42, .inl dM)), ((A 5), .inr (7, [.int 5, .ref (A 6)])), ((A 6), .inl (cy 0, 50, .inl dP)), ((A 7), .inr (2, [.ref (A 8), .ref (A 10), .int dBc])), ((A 8), .inr (7, [.int 12, .ref (A 9)])), ((A 9), .inl (cy 0, 720, .inl dN)), ((A 10), .inr (7, [.int 60, .ref (A 11)])), ((A 11), .inl (cy 0, 60, .inl dO)), ((A 12), .inr (3, [.ref (A 13), .int dCc])), ((A 13), .inr (7, [.int 5, .ref (A 14)])), ((A 14), .inl (cy 0, 40, .inl dC)), ((A 15), .inr (7, [.int 5, .ref (A 16)])), ((A 16), .inl (cy 0, 5, .inl dR)), ((B 0), .inr (5, [.ref (B 1), .ref (B 3), .ref (B 5), .ref (B 7), .ref (B 12), .ref (B 15), .int dMcb, .int dZb, .int dPcb])), ((B 1), .inr (7, [.int 5, .ref (B 2)])), ((B 2), .inl (cy 0, 5, .inl dSb)), ((B 3), .inr (7, [.int 7, .ref (B 4)])), ((B 4), .inl (cy 0, 42, .inl dMb)), ((B 5), .inr (7, [.int 5, .ref (B 6)])), ((B 6), .inl (cy 0, 50, .inl dPb)), ((B 7), .inr (2, [.ref (B 8), .ref (B 10), .int dBcb])), ((B 8), .inr (7, [.int 12, .ref (B 9)])), ((B 9), .inl (cy 0, 720, .inl dNb)), ((B 10), .inr (7, [.int 60, .ref (B 11)])), ((B 11), .inl (cy 0, 60, .inl dOb)), ((B 12), .inr (3, [.ref (B 13), .int dCcb])), ((B 13), .inr (7, [.int 5, .ref (B 14)])), ((B 14), .inl (cy 0, 40, .inl dCb)), ((B 15), .inr (7, [.int 5, .ref (B 16)])), ((B 16), .inl (cy 0, 5, .inl dRb))]) K hR [.ref (B 1)] [] 1 rfl rfl (c_X6_copyFrom X.2.1 (gxD X) cy sd (A 1) (A 2) (B 1) (B 2) 5 5 dS 5 5 dSb hw) gX4_copyFrom_X6_copyFrom rfl yok_X6_copyFrom rfl rfl (by decide) rfl (Nat.le_of_ble_eq_true rfl) dX4_copyFrom_8 [1, 2, 18, 19] rfl (by decide) (fun _ => rfl) (fun _ => rfl) (fun _ => rfl) ⟨rfl, rfl⟩ (fun u1 hw => ?_)
  refine g_aload_n K 0 dX4_copyFrom_11 rfl ?_
  refine g_get K (C := RX4) (T := TX4) (N := 9) 0 1 in_X4_copyFrom_X4 (by decide +kernel) rfl rfl (by decide) rfl dX4_copyFrom_12 ?_
  refine g_aload_n K 1 dX4_copyFrom_15 rfl ?_
  refine g_get K (C := RX4) (T := TX4) (N := 9) 17 1 in_X4_copyFrom_X4 (by decide +kernel) rfl rfl (by decide) rfl dX4_copyFrom_16 ?_
  refine g_callV (st' := fun u2 => []) (ws' := fun u2 => [((A 0), .inr (5, [.ref (A 1), .ref (A 3), .ref (A 5), .ref (A 7), .ref (A 12), .ref (A 15), .int dMc, .int dZ, .int dPc])), ((A 1), .inr (7, [.int 5, .ref (A 2)])), ((A 2), .inl (cy 0, 5, .inl u1)), ((A 3), .inr (7, [.int 7, .ref (A 4)])), ((A 4), .inl (cy 0, 42, .inl u2)), ((A 5), .inr (7, [.int 5, .ref (A 6)])), ((A 6), .inl (cy 0, 50, .inl dP)), ((A 7), .inr (2, [.ref (A 8), .ref (A 10), .int dBc])), ((A 8), .inr (7, [.int 12, .ref (A 9)])), ((A 9), .inl (cy 0, 720, .inl dN)), ((A 10), .inr (7, [.int 60, .ref (A 11)])), ((A 11), .inl (cy 0, 60, .inl dO)), ((A 12), .inr (3, [.ref (A 13), .int dCc])), ((A 13), .inr (7, [.int 5, .ref (A 14)])), ((A 14), .inl (cy 0, 40, .inl dC)), ((A 15), .inr (7, [.int 5, .ref (A 16)])), ((A 16), .inl (cy 0, 5, .inl dR)), ((B 0), .inr (5, [.ref (B 1), .ref (B 3), .ref (B 5), .ref (B 7), .ref (B 12), .ref (B 15), .int dMcb, .int dZb, .int dPcb])), ((B 1), .inr (7, [.int 5, .ref (B 2)])), ((B 2), .inl (cy 0, 5, .inl dSb)), ((B 3), .inr (7, [.int 7, .ref (B 4)])), ((B 4), .inl (cy 0, 42, .inl dMb)), ((B 5), .inr (7, [.int 5, .ref (B 6)])), ((B 6), .inl (cy 0, 50, .inl dPb)), ((B 7), .inr (2, [.ref (B 8), .ref (B 10), .int dBcb])), ((B 8), .inr (7, [.int 12, .ref (B 9)])), ((B 9), .inl (cy 0, 720, .inl dNb)), ((B 10), .inr (7, [.int 60, .ref (B 11)])), ((B 11), .inl (cy 0, 60, .inl dOb)), ((B 12), .inr (3, [.ref (B 13), .int dCcb])), ((B 13), .inr (7, [.int 5, .ref (B 14)])), ((B 14), .inl (cy 0, 40, .inl dCb)), ((B 15), .inr (7, [.int 5, .ref (B 16)])), ((B 16), .inl (cy 0, 5, .inl dRb))]) K hR [.ref (B 3)] [] 3 rfl rfl (c_X6_copyFrom X.2.1 (gxD X) cy sd (A 3) (A 4) (B 3) (B 4) 7 42 dM 7 42 dMb hw) gX4_copyFrom_X6_copyFrom rfl yok_X6_copyFrom rfl rfl (by decide) rfl (Nat.le_of_ble_eq_true rfl) dX4_copyFrom_19 [3, 4, 20, 21] rfl (by decide) (fun _ => rfl) (fun _ => rfl) (fun _ => rfl) ⟨rfl, rfl⟩ (fun u2 hw => ?_)
  refine g_aload_n K 0 dX4_copyFrom_22 rfl ?_
  refine g_get K (C := RX4) (T := TX4) (N := 9) 0 2 in_X4_copyFrom_X4 (by decide +kernel) rfl rfl (by decide) rfl dX4_copyFrom_23 ?_
  refine g_aload_n K 1 dX4_copyFrom_26 rfl ?_
  refine g_get K (C := RX4) (T := TX4) (N := 9) 17 2 in_X4_copyFrom_X4 (by decide +kernel) rfl rfl (by decide) rfl dX4_copyFrom_27 ?_
  refine g_callV (st' := fun u3 => []) (ws' := fun u3 => [((A 0), .inr (5, [.ref (A 1), .ref (A 3), .ref (A 5), .ref (A 7), .ref (A 12), .ref (A 15), .int dMc, .int dZ, .int dPc])), ((A 1), .inr (7, [.int 5, .ref (A 2)])), ((A 2), .inl (cy 0, 5, .inl u1)), ((A 3), .inr (7, [.int 7, .ref (A 4)])), ((A 4), .inl (cy 0, 42, .inl u2)), ((A 5), .inr (7, [.int 5, .ref (A 6)])), ((A 6), .inl (cy 0, 50, .inl u3)), ((A 7), .inr (2, [.ref (A 8), .ref (A 10), .int dBc])), ((A 8), .inr (7, [.int 12, .ref (A 9)])), ((A 9), .inl (cy 0, 720, .inl dN)), ((A 10), .inr (7, [.int 60, .ref (A 11)])), ((A 11), .inl (cy 0, 60, .inl dO)), ((A 12), .inr (3, [.ref (A 13), .int dCc])), ((A 13), .inr (7, [.int 5, .ref (A 14)])), ((A 14), .inl (cy 0, 40, .inl dC)), ((A 15), .inr (7, [.int 5, .ref (A 16)])), ((A 16), .inl (cy 0, 5, .inl dR)), ((B 0), .inr (5, [.ref (B 1), .ref (B 3), .ref (B 5), .ref (B 7), .ref (B 12), .ref (B 15), .int dMcb, .int dZb, .int dPcb])), ((B 1), .inr (7, [.int 5, .ref (B 2)])), ((B 2), .inl (cy 0, 5, .inl dSb)), ((B 3), .inr (7, [.int 7, .ref (B 4)])), ((B 4), .inl (cy 0, 42, .inl dMb)), ((B 5), .inr (7, [.int 5, .ref (B 6)])), ((B 6), .inl (cy 0, 50, .inl dPb)), ((B 7), .inr (2, [.ref (B 8), .ref (B 10), .int dBcb])), ((B 8), .inr (7, [.int 12, .ref (B 9)])), ((B 9), .inl (cy 0, 720, .inl dNb)), ((B 10), .inr (7, [.int 60, .ref (B 11)])), ((B 11), .inl (cy 0, 60, .inl dOb)), ((B 12), .inr (3, [.ref (B 13), .int dCcb])), ((B 13), .inr (7, [.int 5, .ref (B 14)])), ((B 14), .inl (cy 0, 40, .inl dCb)), ((B 15), .inr (7, [.int 5, .ref (B 16)])), ((B 16), .inl (cy 0, 5, .inl dRb))]) K hR [.ref (B 5)] [] 5 rfl rfl (c_X6_copyFrom X.2.1 (gxD X) cy sd (A 5) (A 6) (B 5) (B 6) 5 50 dP 5 50 dPb hw) gX4_copyFrom_X6_copyFrom rfl yok_X6_copyFrom rfl rfl (by decide) rfl (Nat.le_of_ble_eq_true rfl) dX4_copyFrom_30 [5, 6, 22, 23] rfl (by decide) (fun _ => rfl) (fun _ => rfl) (fun _ => rfl) ⟨rfl, rfl⟩ (fun u3 hw => ?_)
  refine g_aload_n K 0 dX4_copyFrom_33 rfl ?_
  refine g_get K (C := RX4) (T := TX4) (N := 9) 0 3 in_X4_copyFrom_X4 (by decide +kernel) rfl rfl (by decide) rfl dX4_copyFrom_34 ?_
  refine g_aload_n K 1 dX4_copyFrom_37 rfl ?_
  refine g_get K (C := RX4) (T := TX4) (N := 9) 17 3 in_X4_copyFrom_X4 (by decide +kernel) rfl rfl (by decide) rfl dX4_copyFrom_38 ?_
  refine g_callV (st' := fun u4 => []) (ws' := fun u4 => [((A 0), .inr (5, [.ref (A 1), .ref (A 3), .ref (A 5), .ref (A 7), .ref (A 12), .ref (A 15), .int dMc, .int dZ, .int dPc])), ((A 1), .inr (7, [.int 5, .ref (A 2)])), ((A 2), .inl (cy 0, 5, .inl u1)), ((A 3), .inr (7, [.int 7, .ref (A 4)])), ((A 4), .inl (cy 0, 42, .inl u2)), ((A 5), .inr (7, [.int 5, .ref (A 6)])), ((A 6), .inl (cy 0, 50, .inl u3)), ((A 7), .inr (2, [.ref (A 8), .ref (A 10), .int u4.1])), ((A 8), .inr (7, [.int 12, .ref (A 9)])), ((A 9), .inl (cy 0, 720, .inl u4.2)), ((A 10), .inr (7, [.int 60, .ref (A 11)])), ((A 11), .inl (cy 0, 60, .inl dO)), ((A 12), .inr (3, [.ref (A 13), .int dCc])), ((A 13), .inr (7, [.int 5, .ref (A 14)])), ((A 14), .inl (cy 0, 40, .inl dC)), ((A 15), .inr (7, [.int 5, .ref (A 16)])), ((A 16), .inl (cy 0, 5, .inl dR)), ((B 0), .inr (5, [.ref (B 1), .ref (B 3), .ref (B 5), .ref (B 7), .ref (B 12), .ref (B 15), .int dMcb, .int dZb, .int dPcb])), ((B 1), .inr (7, [.int 5, .ref (B 2)])), ((B 2), .inl (cy 0, 5, .inl dSb)), ((B 3), .inr (7, [.int 7, .ref (B 4)])), ((B 4), .inl (cy 0, 42, .inl dMb)), ((B 5), .inr (7, [.int 5, .ref (B 6)])), ((B 6), .inl (cy 0, 50, .inl dPb)), ((B 7), .inr (2, [.ref (B 8), .ref (B 10), .int dBcb])), ((B 8), .inr (7, [.int 12, .ref (B 9)])), ((B 9), .inl (cy 0, 720, .inl dNb)), ((B 10), .inr (7, [.int 60, .ref (B 11)])), ((B 11), .inl (cy 0, 60, .inl dOb)), ((B 12), .inr (3, [.ref (B 13), .int dCcb])), ((B 13), .inr (7, [.int 5, .ref (B 14)])), ((B 14), .inl (cy 0, 40, .inl dCb)), ((B 15), .inr (7, [.int 5, .ref (B 16)])), ((B 16), .inl (cy 0, 5, .inl dRb))]) K hR [.ref (B 7)] [] 7 rfl rfl (c_X0_copyFrom X.2.1 (gxD X) cy sd (A 7) (A 8) (A 9) (A 10) (A 11) (B 7) (B 8) (B 9) (B 10) (B 11) dN dBc dO dNb dBcb dOb hw) gX4_copyFrom_X0_copyFrom rfl yok_X0_copyFrom rfl rfl (by decide) rfl (Nat.le_of_ble_eq_true rfl) dX4_copyFrom_41 [7, 8, 9, 10, 11, 24, 25, 26, 27, 28] rfl (by decide) (fun _ => rfl) (fun _ => rfl) (fun _ => rfl) ⟨rfl, rfl⟩ (fun u4 hw => ?_)
  refine g_aload_n K 0 dX4_copyFrom_44 rfl ?_
  refine g_get K (C := RX4) (T := TX4) (N := 9) 0 4 in_X4_copyFrom_X4 (by decide +kernel) rfl rfl (by decide) rfl dX4_copyFrom_45 ?_
  refine g_aload_n K 1 dX4_copyFrom_48 rfl ?_
  refine g_get K (C := RX4) (T := TX4) (N := 9) 17 4 in_X4_copyFrom_X4 (by decide +kernel) rfl rfl (by decide) rfl dX4_copyFrom_49 ?_
  refine g_callV (st' := fun u5 => []) (ws' := fun u5 => [((A 0), .inr (5, [.ref (A 1), .ref (A 3), .ref (A 5), .ref (A 7), .ref (A 12), .ref (A 15), .int dMc, .int dZ, .int dPc])), ((A 1), .inr (7, [.int 5, .ref (A 2)])), ((A 2), .inl (cy 0, 5, .inl u1)), ((A 3), .inr (7, [.int 7, .ref (A 4)])), ((A 4), .inl (cy 0, 42, .inl u2)), ((A 5), .inr (7, [.int 5, .ref (A 6)])), ((A 6), .inl (cy 0, 50, .inl u3)), ((A 7), .inr (2, [.ref (A 8), .ref (A 10), .int u4.1])), ((A 8), .inr (7, [.int 12, .ref (A 9)])), ((A 9), .inl (cy 0, 720, .inl u4.2)), ((A 10), .inr (7, [.int 60, .ref (A 11)])), ((A 11), .inl (cy 0, 60, .inl dO)), ((A 12), .inr (3, [.ref (A 13), .int u5.1])), ((A 13), .inr (7, [.int 5, .ref (A 14)])), ((A 14), .inl (cy 0, 40, .inl u5.2)), ((A 15), .inr (7, [.int 5, .ref (A 16)])), ((A 16), .inl (cy 0, 5, .inl dR)), ((B 0), .inr (5, [.ref (B 1), .ref (B 3), .ref (B 5), .ref (B 7), .ref (B 12), .ref (B 15), .int dMcb, .int dZb, .int dPcb])), ((B 1), .inr (7, [.int 5, .ref (B 2)])), ((B 2), .inl (cy 0, 5, .inl dSb)), ((B 3), .inr (7, [.int 7, .ref (B 4)])), ((B 4), .inl (cy 0, 42, .inl dMb)), ((B 5), .inr (7, [.int 5, .ref (B 6)])), ((B 6), .inl (cy 0, 50, .inl dPb)), ((B 7), .inr (2, [.ref (B 8), .ref (B 10), .int dBcb])), ((B 8), .inr (7, [.int 12, .ref (B 9)])), ((B 9), .inl (cy 0, 720, .inl dNb)), ((B 10), .inr (7, [.int 60, .ref (B 11)])), ((B 11), .inl (cy 0, 60, .inl dOb)), ((B 12), .inr (3, [.ref (B 13), .int dCcb])), ((B 13), .inr (7, [.int 5, .ref (B 14)])), ((B 14), .inl (cy 0, 40, .inl dCb)), ((B 15), .inr (7, [.int 5, .ref (B 16)])), ((B 16), .inl (cy 0, 5, .inl dRb))]) K hR [.ref (B 12)] [] 12 rfl rfl (c_X1_copyFrom X.2.1 (gxD X) cy sd (A 12) (A 13) (A 14) (B 12) (B 13) (B 14) dC dCc dCb dCcb hw) gX4_copyFrom_X1_copyFrom rfl yok_X1_copyFrom rfl rfl (by decide) rfl (Nat.le_of_ble_eq_true rfl) dX4_copyFrom_52 [12, 13, 14, 29, 30, 31] rfl (by decide) (fun _ => rfl) (fun _ => rfl) (fun _ => rfl) ⟨rfl, rfl⟩ (fun u5 hw => ?_)
  refine g_aload_n K 0 dX4_copyFrom_55 rfl ?_
  refine g_aload_n K 1 dX4_copyFrom_56 rfl ?_
  refine g_get K (C := RX4) (T := TX4) (N := 9) 17 6 in_X4_copyFrom_X4 (by decide +kernel) rfl rfl (by decide) rfl dX4_copyFrom_57 ?_
  refine g_put (ty := .int) (ws' := [((A 0), .inr (5, [.ref (A 1), .ref (A 3), .ref (A 5), .ref (A 7), .ref (A 12), .ref (A 15), .int dMcb, .int dZ, .int dPc])), ((A 1), .inr (7, [.int 5, .ref (A 2)])), ((A 2), .inl (cy 0, 5, .inl u1)), ((A 3), .inr (7, [.int 7, .ref (A 4)])), ((A 4), .inl (cy 0, 42, .inl u2)), ((A 5), .inr (7, [.int 5, .ref (A 6)])), ((A 6), .inl (cy 0, 50, .inl u3)), ((A 7), .inr (2, [.ref (A 8), .ref (A 10), .int u4.1])), ((A 8), .inr (7, [.int 12, .ref (A 9)])), ((A 9), .inl (cy 0, 720, .inl u4.2)), ((A 10), .inr (7, [.int 60, .ref (A 11)])), ((A 11), .inl (cy 0, 60, .inl dO)), ((A 12), .inr (3, [.ref (A 13), .int u5.1])), ((A 13), .inr (7, [.int 5, .ref (A 14)])), ((A 14), .inl (cy 0, 40, .inl u5.2)), ((A 15), .inr (7, [.int 5, .ref (A 16)])), ((A 16), .inl (cy 0, 5, .inl dR)), ((B 0), .inr (5, [.ref (B 1), .ref (B 3), .ref (B 5), .ref (B 7), .ref (B 12), .ref (B 15), .int dMcb, .int dZb, .int dPcb])), ((B 1), .inr (7, [.int 5, .ref (B 2)])), ((B 2), .inl (cy 0, 5, .inl dSb)), ((B 3), .inr (7, [.int 7, .ref (B 4)])), ((B 4), .inl (cy 0, 42, .inl dMb)), ((B 5), .inr (7, [.int 5, .ref (B 6)])), ((B 6), .inl (cy 0, 50, .inl dPb)), ((B 7), .inr (2, [.ref (B 8), .ref (B 10), .int dBcb])), ((B 8), .inr (7, [.int 12, .ref (B 9)])), ((B 9), .inl (cy 0, 720, .inl dNb)), ((B 10), .inr (7, [.int 60, .ref (B 11)])), ((B 11), .inl (cy 0, 60, .inl dOb)), ((B 12), .inr (3, [.ref (B 13), .int dCcb])), ((B 13), .inr (7, [.int 5, .ref (B 14)])), ((B 14), .inl (cy 0, 40, .inl dCb)), ((B 15), .inr (7, [.int 5, .ref (B 16)])), ((B 16), .inl (cy 0, 5, .inl dRb))]) K (C := RX4) (T := TX4) (N := 9) 0 6 in_X4_copyFrom_X4 tyX4 tyX4_ok nmX4 (by decide +kernel) rfl rfl (by decide) rfl (by decide +kernel) rfl rfl (Nat.le_of_ble_eq_true rfl) rfl dX4_copyFrom_60 ?_
  refine g_aload_n K 0 dX4_copyFrom_63 rfl ?_
  refine g_aload_n K 1 dX4_copyFrom_64 rfl ?_
  refine g_get K (C := RX4) (T := TX4) (N := 9) 17 7 in_X4_copyFrom_X4 (by decide +kernel) rfl rfl (by decide) rfl dX4_copyFrom_65 ?_
  refine g_put (ty := .int) (ws' := [((A 0), .inr (5, [.ref (A 1), .ref (A 3), .ref (A 5), .ref (A 7), .ref (A 12), .ref (A 15), .int dMcb, .int dZb, .int dPc])), ((A 1), .inr (7, [.int 5, .ref (A 2)])), ((A 2), .inl (cy 0, 5, .inl u1)), ((A 3), .inr (7, [.int 7, .ref (A 4)])), ((A 4), .inl (cy 0, 42, .inl u2)), ((A 5), .inr (7, [.int 5, .ref (A 6)])), ((A 6), .inl (cy 0, 50, .inl u3)), ((A 7), .inr (2, [.ref (A 8), .ref (A 10), .int u4.1])), ((A 8), .inr (7, [.int 12, .ref (A 9)])), ((A 9), .inl (cy 0, 720, .inl u4.2)), ((A 10), .inr (7, [.int 60, .ref (A 11)])), ((A 11), .inl (cy 0, 60, .inl dO)), ((A 12), .inr (3, [.ref (A 13), .int u5.1])), ((A 13), .inr (7, [.int 5, .ref (A 14)])), ((A 14), .inl (cy 0, 40, .inl u5.2)), ((A 15), .inr (7, [.int 5, .ref (A 16)])), ((A 16), .inl (cy 0, 5, .inl dR)), ((B 0), .inr (5, [.ref (B 1), .ref (B 3), .ref (B 5), .ref (B 7), .ref (B 12), .ref (B 15), .int dMcb, .int dZb, .int dPcb])), ((B 1), .inr (7, [.int 5, .ref (B 2)])), ((B 2), .inl (cy 0, 5, .inl dSb)), ((B 3), .inr (7, [.int 7, .ref (B 4)])), ((B 4), .inl (cy 0, 42, .inl dMb)), ((B 5), .inr (7, [.int 5, .ref (B 6)])), ((B 6), .inl (cy 0, 50, .inl dPb)), ((B 7), .inr (2, [.ref (B 8), .ref (B 10), .int dBcb])), ((B 8), .inr (7, [.int 12, .ref (B 9)])), ((B 9), .inl (cy 0, 720, .inl dNb)), ((B 10), .inr (7, [.int 60, .ref (B 11)])), ((B 11), .inl (cy 0, 60, .inl dOb)), ((B 12), .inr (3, [.ref (B 13), .int dCcb])), ((B 13), .inr (7, [.int 5, .ref (B 14)])), ((B 14), .inl (cy 0, 40, .inl dCb)), ((B 15), .inr (7, [.int 5, .ref (B 16)])), ((B 16), .inl (cy 0, 5, .inl dRb))]) K (C := RX4) (T := TX4) (N := 9) 0 7 in_X4_copyFrom_X4 tyX4 tyX4_ok nmX4 (by decide +kernel) rfl rfl (by decide) rfl (by decide +kernel) rfl rfl (Nat.le_of_ble_eq_true rfl) rfl dX4_copyFrom_68 ?_
  refine g_aload_n K 0 dX4_copyFrom_71 rfl ?_
  refine g_aload_n K 1 dX4_copyFrom_72 rfl ?_
  refine g_get K (C := RX4) (T := TX4) (N := 9) 17 8 in_X4_copyFrom_X4 (by decide +kernel) rfl rfl (by decide) rfl dX4_copyFrom_73 ?_
  refine g_put (ty := .int) (ws' := [((A 0), .inr (5, [.ref (A 1), .ref (A 3), .ref (A 5), .ref (A 7), .ref (A 12), .ref (A 15), .int dMcb, .int dZb, .int dPcb])), ((A 1), .inr (7, [.int 5, .ref (A 2)])), ((A 2), .inl (cy 0, 5, .inl u1)), ((A 3), .inr (7, [.int 7, .ref (A 4)])), ((A 4), .inl (cy 0, 42, .inl u2)), ((A 5), .inr (7, [.int 5, .ref (A 6)])), ((A 6), .inl (cy 0, 50, .inl u3)), ((A 7), .inr (2, [.ref (A 8), .ref (A 10), .int u4.1])), ((A 8), .inr (7, [.int 12, .ref (A 9)])), ((A 9), .inl (cy 0, 720, .inl u4.2)), ((A 10), .inr (7, [.int 60, .ref (A 11)])), ((A 11), .inl (cy 0, 60, .inl dO)), ((A 12), .inr (3, [.ref (A 13), .int u5.1])), ((A 13), .inr (7, [.int 5, .ref (A 14)])), ((A 14), .inl (cy 0, 40, .inl u5.2)), ((A 15), .inr (7, [.int 5, .ref (A 16)])), ((A 16), .inl (cy 0, 5, .inl dR)), ((B 0), .inr (5, [.ref (B 1), .ref (B 3), .ref (B 5), .ref (B 7), .ref (B 12), .ref (B 15), .int dMcb, .int dZb, .int dPcb])), ((B 1), .inr (7, [.int 5, .ref (B 2)])), ((B 2), .inl (cy 0, 5, .inl dSb)), ((B 3), .inr (7, [.int 7, .ref (B 4)])), ((B 4), .inl (cy 0, 42, .inl dMb)), ((B 5), .inr (7, [.int 5, .ref (B 6)])), ((B 6), .inl (cy 0, 50, .inl dPb)), ((B 7), .inr (2, [.ref (B 8), .ref (B 10), .int dBcb])), ((B 8), .inr (7, [.int 12, .ref (B 9)])), ((B 9), .inl (cy 0, 720, .inl dNb)), ((B 10), .inr (7, [.int 60, .ref (B 11)])), ((B 11), .inl (cy 0, 60, .inl dOb)), ((B 12), .inr (3, [.ref (B 13), .int dCcb])), ((B 13), .inr (7, [.int 5, .ref (B 14)])), ((B 14), .inl (cy 0, 40, .inl dCb)), ((B 15), .inr (7, [.int 5, .ref (B 16)])), ((B 16), .inl (cy 0, 5, .inl dRb))]) K (C := RX4) (T := TX4) (N := 9) 0 8 in_X4_copyFrom_X4 tyX4 tyX4_ok nmX4 (by decide +kernel) rfl rfl (by decide) rfl (by decide +kernel) rfl rfl (Nat.le_of_ble_eq_true rfl) rfl dX4_copyFrom_76 ?_
  exact g_vret K E Er (dMcb, dZb, dPcb, u1, u2, u3, u4.1, u4.2, u5.1, u5.2) hw rfl rfl (Nat.le_refl _) (Nat.le_refl _) dX4_copyFrom_79

def wp_X4_setting (dS : XRow) (p0 : Int32) (post : Int32 → Prop) : Prop := wp_X6_get 5 5 dS 0 p0 (fun u1 : Int32 => post u1)
theorem in_X4_setting_X4 : ∀ w ∈ u_ws RX4 TX4 9, w ∈ wsX4_setting := by decide +kernel
set_option maxRecDepth 100000 in
set_option maxHeartbeats 4000000 in
theorem c_X4_setting (l : Launch) (D : va_G) (cy : Nat → ClassId) (sd : xSd) (A : Nat → Nat) (dS : XRow) (dM : XRow) (dP : XRow) (dN : XRow) (dBc : Int32) (dO : XRow) (dC : XRow) (dCc : Int32) (dR : XRow) (dMc : Int32) (dZ : Int32) (dPc : Int32) (p0 : Int32) {post : Int32 → Prop} (hw : wp_X4_setting dS p0 post) : Ctr l D (xTys cy) sd yX4_setting wsX4_setting ({ frames := 1, cells := 0, slots := 0, locals := 23 } : Room) [.ref (A 0), .int p0] (fun u : Int32 => some (.int u)) [((A 0), .inr (5, [.ref (A 1), .ref (A 3), .ref (A 5), .ref (A 7), .ref (A 12), .ref (A 15), .int dMc, .int dZ, .int dPc])), ((A 1), .inr (7, [.int 5, .ref (A 2)])), ((A 2), .inl (cy 0, 5, .inl dS)), ((A 3), .inr (7, [.int 7, .ref (A 4)])), ((A 4), .inl (cy 0, 42, .inl dM)), ((A 5), .inr (7, [.int 5, .ref (A 6)])), ((A 6), .inl (cy 0, 50, .inl dP)), ((A 7), .inr (2, [.ref (A 8), .ref (A 10), .int dBc])), ((A 8), .inr (7, [.int 12, .ref (A 9)])), ((A 9), .inl (cy 0, 720, .inl dN)), ((A 10), .inr (7, [.int 60, .ref (A 11)])), ((A 11), .inl (cy 0, 60, .inl dO)), ((A 12), .inr (3, [.ref (A 13), .int dCc])), ((A 13), .inr (7, [.int 5, .ref (A 14)])), ((A 14), .inl (cy 0, 40, .inl dC)), ((A 15), .inr (7, [.int 5, .ref (A 16)])), ((A 16), .inl (cy 0, 5, .inl dR))] (fun _ => [((A 0), .inr (5, [.ref (A 1), .ref (A 3), .ref (A 5), .ref (A 7), .ref (A 12), .ref (A 15), .int dMc, .int dZ, .int dPc])), ((A 1), .inr (7, [.int 5, .ref (A 2)])), ((A 2), .inl (cy 0, 5, .inl dS)), ((A 3), .inr (7, [.int 7, .ref (A 4)])), ((A 4), .inl (cy 0, 42, .inl dM)), ((A 5), .inr (7, [.int 5, .ref (A 6)])), ((A 6), .inl (cy 0, 50, .inl dP)), ((A 7), .inr (2, [.ref (A 8), .ref (A 10), .int dBc])), ((A 8), .inr (7, [.int 12, .ref (A 9)])), ((A 9), .inl (cy 0, 720, .inl dN)), ((A 10), .inr (7, [.int 60, .ref (A 11)])), ((A 11), .inl (cy 0, 60, .inl dO)), ((A 12), .inr (3, [.ref (A 13), .int dCc])), ((A 13), .inr (7, [.int 5, .ref (A 14)])), ((A 14), .inl (cy 0, 40, .inl dC)), ((A 15), .inr (7, [.int 5, .ref (A 16)])), ((A 16), .inl (cy 0, 5, .inl dR))]) post := by
  refine Ctr.of (cc := cX4_setting) (maxL := 2) (ret := (some .int)) (lv0 := [(0, .ref (A 0)), (1, .int p0)]) (by decide) rfl (Nat.le_of_ble_eq_true rfl) rfl ?_
  intro X El hR Er Enm ED E En K
  have K : Cx X cX4_setting RX4 wsX4_setting (xTys cy) sd := K
  have E : X.2.2.2.2.2.2.2.2.2.2.1 = xMQ X (fun u : Int32 => some (.int u)) post (fun _ => [((A 0), .inr (5, [.ref (A 1), .ref (A 3), .ref (A 5), .ref (A 7), .ref (A 12), .ref (A 15), .int dMc, .int dZ, .int dPc])), ((A 1), .inr (7, [.int 5, .ref (A 2)])), ((A 2), .inl (cy 0, 5, .inl dS)), ((A 3), .inr (7, [.int 7, .ref (A 4)])), ((A 4), .inl (cy 0, 42, .inl dM)), ((A 5), .inr (7, [.int 5, .ref (A 6)])), ((A 6), .inl (cy 0, 50, .inl dP)), ((A 7), .inr (2, [.ref (A 8), .ref (A 10), .int dBc])), ((A 8), .inr (7, [.int 12, .ref (A 9)])), ((A 9), .inl (cy 0, 720, .inl dN)), ((A 10), .inr (7, [.int 60, .ref (A 11)])), ((A 11), .inl (cy 0, 60, .inl dO)), ((A 12), .inr (3, [.ref (A 13), .int dCc])), ((A 13), .inr (7, [.int 5, .ref (A 14)])), ((A 14), .inl (cy 0, 40, .inl dC)), ((A 15), .inr (7, [.int 5, .ref (A 16)])), ((A 16), .inl (cy 0, 5, .inl dR))]) 0 0 := E
  unfold wp_X4_setting at hw
  refine g_aload_n K 0 dX4_setting_0 rfl ?_
  refine g_get K (C := RX4) (T := TX4) (N := 9) 0 0 in_X4_setting_X4 (by decide +kernel) rfl rfl (by decide) rfl dX4_setting_1 ?_
  refine g_iconst (v := 0) K dX4_setting_4 rfl ?_
  refine g_iload_n K 1 dX4_setting_5 rfl ?_
  refine g_callVr (st' := fun u1 => [.int u1]) K hR [.int 0, .int p0] [] 1 rfl rfl (c_X6_get X.2.1 (gxD X) cy sd (A 1) (A 2) 5 5 dS 0 p0 hw) gX4_setting_X6_get rfl yok_X6_get rfl rfl (by decide) rfl (Nat.le_of_ble_eq_true rfl) dX4_setting_6 [1, 2] rfl (by decide) (fun _ => rfl) ⟨rfl, rfl⟩ (fun u1 hw => ?_)
  exact g_zret K E Er u1 hw rfl rfl rfl (Nat.le_refl _) (Nat.le_refl _) dX4_setting_9

def wp_X4_addLast (dM : XRow) (dMc : Int32) (p0 : Int32) (p1 : Int32) (p2 : Int32) (p3 : Int32) (p4 : Int32) (post : (Int32 × Int32 × XRow) → Prop) : Prop := wp_X6_put 7 42 dM dMc 0 p0 (fun u1 : XRow => wp_X6_put 7 42 u1 dMc 1 p1 (fun u2 : XRow => wp_X6_put 7 42 u2 dMc 2 p2 (fun u3 : XRow => wp_X6_put 7 42 u3 dMc 3 p3 (fun u4 : XRow => wp_X6_put 7 42 u4 dMc 4 p4 (fun u5 : XRow => wp_X6_put 7 42 u5 dMc 6 0 (fun u6 : XRow => ∀ x7 : Int32, x7 = dMc + 1 → (post (dMc, x7, u6))))))))
theorem in_X4_addLast_X4 : ∀ w ∈ u_ws RX4 TX4 9, w ∈ wsX4_addLast := by decide +kernel
set_option maxRecDepth 100000 in
set_option maxHeartbeats 4000000 in
theorem c_X4_addLast (l : Launch) (D : va_G) (cy : Nat → ClassId) (sd : xSd) (A : Nat → Nat) (dS : XRow) (dM : XRow) (dP : XRow) (dN : XRow) (dBc : Int32) (dO : XRow) (dC : XRow) (dCc : Int32) (dR : XRow) (dMc : Int32) (dZ : Int32) (dPc : Int32) (p0 : Int32) (p1 : Int32) (p2 : Int32) (p3 : Int32) (p4 : Int32) {post : (Int32 × Int32 × XRow) → Prop} (hw : wp_X4_addLast dM dMc p0 p1 p2 p3 p4 post) : Ctr l D (xTys cy) sd yX4_addLast wsX4_addLast ({ frames := 1, cells := 0, slots := 0, locals := 24 } : Room) [.ref (A 0), .int p0, .int p1, .int p2, .int p3, .int p4] (fun u : Int32 × Int32 × XRow => some (.int u.1)) [((A 0), .inr (5, [.ref (A 1), .ref (A 3), .ref (A 5), .ref (A 7), .ref (A 12), .ref (A 15), .int dMc, .int dZ, .int dPc])), ((A 1), .inr (7, [.int 5, .ref (A 2)])), ((A 2), .inl (cy 0, 5, .inl dS)), ((A 3), .inr (7, [.int 7, .ref (A 4)])), ((A 4), .inl (cy 0, 42, .inl dM)), ((A 5), .inr (7, [.int 5, .ref (A 6)])), ((A 6), .inl (cy 0, 50, .inl dP)), ((A 7), .inr (2, [.ref (A 8), .ref (A 10), .int dBc])), ((A 8), .inr (7, [.int 12, .ref (A 9)])), ((A 9), .inl (cy 0, 720, .inl dN)), ((A 10), .inr (7, [.int 60, .ref (A 11)])), ((A 11), .inl (cy 0, 60, .inl dO)), ((A 12), .inr (3, [.ref (A 13), .int dCc])), ((A 13), .inr (7, [.int 5, .ref (A 14)])), ((A 14), .inl (cy 0, 40, .inl dC)), ((A 15), .inr (7, [.int 5, .ref (A 16)])), ((A 16), .inl (cy 0, 5, .inl dR))] (fun u => [((A 0), .inr (5, [.ref (A 1), .ref (A 3), .ref (A 5), .ref (A 7), .ref (A 12), .ref (A 15), .int u.2.1, .int dZ, .int dPc])), ((A 1), .inr (7, [.int 5, .ref (A 2)])), ((A 2), .inl (cy 0, 5, .inl dS)), ((A 3), .inr (7, [.int 7, .ref (A 4)])), ((A 4), .inl (cy 0, 42, .inl u.2.2)), ((A 5), .inr (7, [.int 5, .ref (A 6)])), ((A 6), .inl (cy 0, 50, .inl dP)), ((A 7), .inr (2, [.ref (A 8), .ref (A 10), .int dBc])), ((A 8), .inr (7, [.int 12, .ref (A 9)])), ((A 9), .inl (cy 0, 720, .inl dN)), ((A 10), .inr (7, [.int 60, .ref (A 11)])), ((A 11), .inl (cy 0, 60, .inl dO)), ((A 12), .inr (3, [.ref (A 13), .int dCc])), ((A 13), .inr (7, [.int 5, .ref (A 14)])), ((A 14), .inl (cy 0, 40, .inl dC)), ((A 15), .inr (7, [.int 5, .ref (A 16)])), ((A 16), .inl (cy 0, 5, .inl dR))]) post := by
  refine Ctr.of (cc := cX4_addLast) (maxL := 7) (ret := (some .int)) (lv0 := [(0, .ref (A 0)), (1, .int p0), (2, .int p1), (3, .int p2), (4, .int p3), (5, .int p4)]) (by decide) rfl (Nat.le_of_ble_eq_true rfl) rfl ?_
  intro X El hR Er Enm ED E En K
  have K : Cx X cX4_addLast RX4 wsX4_addLast (xTys cy) sd := K
  have E : X.2.2.2.2.2.2.2.2.2.2.1 = xMQ X (fun u : Int32 × Int32 × XRow => some (.int u.1)) post (fun u => [((A 0), .inr (5, [.ref (A 1), .ref (A 3), .ref (A 5), .ref (A 7), .ref (A 12), .ref (A 15), .int u.2.1, .int dZ, .int dPc])), ((A 1), .inr (7, [.int 5, .ref (A 2)])), ((A 2), .inl (cy 0, 5, .inl dS)), ((A 3), .inr (7, [.int 7, .ref (A 4)])), ((A 4), .inl (cy 0, 42, .inl u.2.2)), ((A 5), .inr (7, [.int 5, .ref (A 6)])), ((A 6), .inl (cy 0, 50, .inl dP)), ((A 7), .inr (2, [.ref (A 8), .ref (A 10), .int dBc])), ((A 8), .inr (7, [.int 12, .ref (A 9)])), ((A 9), .inl (cy 0, 720, .inl dN)), ((A 10), .inr (7, [.int 60, .ref (A 11)])), ((A 11), .inl (cy 0, 60, .inl dO)), ((A 12), .inr (3, [.ref (A 13), .int dCc])), ((A 13), .inr (7, [.int 5, .ref (A 14)])), ((A 14), .inl (cy 0, 40, .inl dC)), ((A 15), .inr (7, [.int 5, .ref (A 16)])), ((A 16), .inl (cy 0, 5, .inl dR))]) 0 0 := E
  unfold wp_X4_addLast at hw
  refine g_aload_n K 0 dX4_addLast_0 rfl ?_
  refine g_get K (C := RX4) (T := TX4) (N := 9) 0 6 in_X4_addLast_X4 (by decide +kernel) rfl rfl (by decide) rfl dX4_addLast_1 ?_
  refine g_istore (lv' := [(6, .int dMc), (0, .ref (A 0)), (1, .int p0), (2, .int p1), (3, .int p2), (4, .int p3), (5, .int p4)]) K dX4_addLast_4 (by rw [En]; decide) rfl ?_
  refine g_aload_n K 1 dX4_addLast_6 rfl ?_
  refine g_get K (C := RX4) (T := TX4) (N := 9) 0 1 in_X4_addLast_X4 (by decide +kernel) rfl rfl (by decide) rfl dX4_addLast_7 ?_
  refine g_iload K 0 dX4_addLast_10 rfl ?_
  refine g_iconst (v := 0) K dX4_addLast_12 rfl ?_
  refine g_iload_n K 2 dX4_addLast_13 rfl ?_
  refine g_callV (st' := fun u1 => []) (ws' := fun u1 => [((A 0), .inr (5, [.ref (A 1), .ref (A 3), .ref (A 5), .ref (A 7), .ref (A 12), .ref (A 15), .int dMc, .int dZ, .int dPc])), ((A 1), .inr (7, [.int 5, .ref (A 2)])), ((A 2), .inl (cy 0, 5, .inl dS)), ((A 3), .inr (7, [.int 7, .ref (A 4)])), ((A 4), .inl (cy 0, 42, .inl u1)), ((A 5), .inr (7, [.int 5, .ref (A 6)])), ((A 6), .inl (cy 0, 50, .inl dP)), ((A 7), .inr (2, [.ref (A 8), .ref (A 10), .int dBc])), ((A 8), .inr (7, [.int 12, .ref (A 9)])), ((A 9), .inl (cy 0, 720, .inl dN)), ((A 10), .inr (7, [.int 60, .ref (A 11)])), ((A 11), .inl (cy 0, 60, .inl dO)), ((A 12), .inr (3, [.ref (A 13), .int dCc])), ((A 13), .inr (7, [.int 5, .ref (A 14)])), ((A 14), .inl (cy 0, 40, .inl dC)), ((A 15), .inr (7, [.int 5, .ref (A 16)])), ((A 16), .inl (cy 0, 5, .inl dR))]) K hR [.int dMc, .int 0, .int p0] [] 3 rfl rfl (c_X6_put X.2.1 (gxD X) cy sd (A 3) (A 4) 7 42 dM dMc 0 p0 hw) gX4_addLast_X6_put rfl yok_X6_put rfl rfl (by decide) rfl (Nat.le_of_ble_eq_true rfl) dX4_addLast_14 [3, 4] rfl (by decide) (fun _ => rfl) (fun _ => rfl) (fun _ => rfl) ⟨rfl, rfl⟩ (fun u1 hw => ?_)
  refine g_aload_n K 1 dX4_addLast_17 rfl ?_
  refine g_get K (C := RX4) (T := TX4) (N := 9) 0 1 in_X4_addLast_X4 (by decide +kernel) rfl rfl (by decide) rfl dX4_addLast_18 ?_
  refine g_iload K 0 dX4_addLast_21 rfl ?_
  refine g_iconst (v := 1) K dX4_addLast_23 rfl ?_
  refine g_iload_n K 3 dX4_addLast_24 rfl ?_
  refine g_callV (st' := fun u2 => []) (ws' := fun u2 => [((A 0), .inr (5, [.ref (A 1), .ref (A 3), .ref (A 5), .ref (A 7), .ref (A 12), .ref (A 15), .int dMc, .int dZ, .int dPc])), ((A 1), .inr (7, [.int 5, .ref (A 2)])), ((A 2), .inl (cy 0, 5, .inl dS)), ((A 3), .inr (7, [.int 7, .ref (A 4)])), ((A 4), .inl (cy 0, 42, .inl u2)), ((A 5), .inr (7, [.int 5, .ref (A 6)])), ((A 6), .inl (cy 0, 50, .inl dP)), ((A 7), .inr (2, [.ref (A 8), .ref (A 10), .int dBc])), ((A 8), .inr (7, [.int 12, .ref (A 9)])), ((A 9), .inl (cy 0, 720, .inl dN)), ((A 10), .inr (7, [.int 60, .ref (A 11)])), ((A 11), .inl (cy 0, 60, .inl dO)), ((A 12), .inr (3, [.ref (A 13), .int dCc])), ((A 13), .inr (7, [.int 5, .ref (A 14)])), ((A 14), .inl (cy 0, 40, .inl dC)), ((A 15), .inr (7, [.int 5, .ref (A 16)])), ((A 16), .inl (cy 0, 5, .inl dR))]) K hR [.int dMc, .int 1, .int p1] [] 3 rfl rfl (c_X6_put X.2.1 (gxD X) cy sd (A 3) (A 4) 7 42 u1 dMc 1 p1 hw) gX4_addLast_X6_put rfl yok_X6_put rfl rfl (by decide) rfl (Nat.le_of_ble_eq_true rfl) dX4_addLast_25 [3, 4] rfl (by decide) (fun _ => rfl) (fun _ => rfl) (fun _ => rfl) ⟨rfl, rfl⟩ (fun u2 hw => ?_)
  refine g_aload_n K 1 dX4_addLast_28 rfl ?_
  refine g_get K (C := RX4) (T := TX4) (N := 9) 0 1 in_X4_addLast_X4 (by decide +kernel) rfl rfl (by decide) rfl dX4_addLast_29 ?_
  refine g_iload K 0 dX4_addLast_32 rfl ?_
  refine g_iconst (v := 2) K dX4_addLast_34 rfl ?_
  refine g_iload_n K 4 dX4_addLast_35 rfl ?_
  refine g_callV (st' := fun u3 => []) (ws' := fun u3 => [((A 0), .inr (5, [.ref (A 1), .ref (A 3), .ref (A 5), .ref (A 7), .ref (A 12), .ref (A 15), .int dMc, .int dZ, .int dPc])), ((A 1), .inr (7, [.int 5, .ref (A 2)])), ((A 2), .inl (cy 0, 5, .inl dS)), ((A 3), .inr (7, [.int 7, .ref (A 4)])), ((A 4), .inl (cy 0, 42, .inl u3)), ((A 5), .inr (7, [.int 5, .ref (A 6)])), ((A 6), .inl (cy 0, 50, .inl dP)), ((A 7), .inr (2, [.ref (A 8), .ref (A 10), .int dBc])), ((A 8), .inr (7, [.int 12, .ref (A 9)])), ((A 9), .inl (cy 0, 720, .inl dN)), ((A 10), .inr (7, [.int 60, .ref (A 11)])), ((A 11), .inl (cy 0, 60, .inl dO)), ((A 12), .inr (3, [.ref (A 13), .int dCc])), ((A 13), .inr (7, [.int 5, .ref (A 14)])), ((A 14), .inl (cy 0, 40, .inl dC)), ((A 15), .inr (7, [.int 5, .ref (A 16)])), ((A 16), .inl (cy 0, 5, .inl dR))]) K hR [.int dMc, .int 2, .int p2] [] 3 rfl rfl (c_X6_put X.2.1 (gxD X) cy sd (A 3) (A 4) 7 42 u2 dMc 2 p2 hw) gX4_addLast_X6_put rfl yok_X6_put rfl rfl (by decide) rfl (Nat.le_of_ble_eq_true rfl) dX4_addLast_36 [3, 4] rfl (by decide) (fun _ => rfl) (fun _ => rfl) (fun _ => rfl) ⟨rfl, rfl⟩ (fun u3 hw => ?_)
  refine g_aload_n K 1 dX4_addLast_39 rfl ?_
  refine g_get K (C := RX4) (T := TX4) (N := 9) 0 1 in_X4_addLast_X4 (by decide +kernel) rfl rfl (by decide) rfl dX4_addLast_40 ?_
  refine g_iload K 0 dX4_addLast_43 rfl ?_
  refine g_iconst (v := 3) K dX4_addLast_45 rfl ?_
  refine g_iload K 5 dX4_addLast_46 rfl ?_
  refine g_callV (st' := fun u4 => []) (ws' := fun u4 => [((A 0), .inr (5, [.ref (A 1), .ref (A 3), .ref (A 5), .ref (A 7), .ref (A 12), .ref (A 15), .int dMc, .int dZ, .int dPc])), ((A 1), .inr (7, [.int 5, .ref (A 2)])), ((A 2), .inl (cy 0, 5, .inl dS)), ((A 3), .inr (7, [.int 7, .ref (A 4)])), ((A 4), .inl (cy 0, 42, .inl u4)), ((A 5), .inr (7, [.int 5, .ref (A 6)])), ((A 6), .inl (cy 0, 50, .inl dP)), ((A 7), .inr (2, [.ref (A 8), .ref (A 10), .int dBc])), ((A 8), .inr (7, [.int 12, .ref (A 9)])), ((A 9), .inl (cy 0, 720, .inl dN)), ((A 10), .inr (7, [.int 60, .ref (A 11)])), ((A 11), .inl (cy 0, 60, .inl dO)), ((A 12), .inr (3, [.ref (A 13), .int dCc])), ((A 13), .inr (7, [.int 5, .ref (A 14)])), ((A 14), .inl (cy 0, 40, .inl dC)), ((A 15), .inr (7, [.int 5, .ref (A 16)])), ((A 16), .inl (cy 0, 5, .inl dR))]) K hR [.int dMc, .int 3, .int p3] [] 3 rfl rfl (c_X6_put X.2.1 (gxD X) cy sd (A 3) (A 4) 7 42 u3 dMc 3 p3 hw) gX4_addLast_X6_put rfl yok_X6_put rfl rfl (by decide) rfl (Nat.le_of_ble_eq_true rfl) dX4_addLast_48 [3, 4] rfl (by decide) (fun _ => rfl) (fun _ => rfl) (fun _ => rfl) ⟨rfl, rfl⟩ (fun u4 hw => ?_)
  refine g_aload_n K 1 dX4_addLast_51 rfl ?_
  refine g_get K (C := RX4) (T := TX4) (N := 9) 0 1 in_X4_addLast_X4 (by decide +kernel) rfl rfl (by decide) rfl dX4_addLast_52 ?_
  refine g_iload K 0 dX4_addLast_55 rfl ?_
  refine g_iconst (v := 4) K dX4_addLast_57 rfl ?_
  refine g_iload K 6 dX4_addLast_58 rfl ?_
  refine g_callV (st' := fun u5 => []) (ws' := fun u5 => [((A 0), .inr (5, [.ref (A 1), .ref (A 3), .ref (A 5), .ref (A 7), .ref (A 12), .ref (A 15), .int dMc, .int dZ, .int dPc])), ((A 1), .inr (7, [.int 5, .ref (A 2)])), ((A 2), .inl (cy 0, 5, .inl dS)), ((A 3), .inr (7, [.int 7, .ref (A 4)])), ((A 4), .inl (cy 0, 42, .inl u5)), ((A 5), .inr (7, [.int 5, .ref (A 6)])), ((A 6), .inl (cy 0, 50, .inl dP)), ((A 7), .inr (2, [.ref (A 8), .ref (A 10), .int dBc])), ((A 8), .inr (7, [.int 12, .ref (A 9)])), ((A 9), .inl (cy 0, 720, .inl dN)), ((A 10), .inr (7, [.int 60, .ref (A 11)])), ((A 11), .inl (cy 0, 60, .inl dO)), ((A 12), .inr (3, [.ref (A 13), .int dCc])), ((A 13), .inr (7, [.int 5, .ref (A 14)])), ((A 14), .inl (cy 0, 40, .inl dC)), ((A 15), .inr (7, [.int 5, .ref (A 16)])), ((A 16), .inl (cy 0, 5, .inl dR))]) K hR [.int dMc, .int 4, .int p4] [] 3 rfl rfl (c_X6_put X.2.1 (gxD X) cy sd (A 3) (A 4) 7 42 u4 dMc 4 p4 hw) gX4_addLast_X6_put rfl yok_X6_put rfl rfl (by decide) rfl (Nat.le_of_ble_eq_true rfl) dX4_addLast_60 [3, 4] rfl (by decide) (fun _ => rfl) (fun _ => rfl) (fun _ => rfl) ⟨rfl, rfl⟩ (fun u5 hw => ?_)
  refine g_aload_n K 1 dX4_addLast_63 rfl ?_
  refine g_get K (C := RX4) (T := TX4) (N := 9) 0 1 in_X4_addLast_X4 (by decide +kernel) rfl rfl (by decide) rfl dX4_addLast_64 ?_
  refine g_iload K 0 dX4_addLast_67 rfl ?_
  refine g_bipush (v := 6) K dX4_addLast_69 rfl ?_
  refine g_iconst (v := 0) K dX4_addLast_71 rfl ?_
  refine g_callV (st' := fun u6 => []) (ws' := fun u6 => [((A 0), .inr (5, [.ref (A 1), .ref (A 3), .ref (A 5), .ref (A 7), .ref (A 12), .ref (A 15), .int dMc, .int dZ, .int dPc])), ((A 1), .inr (7, [.int 5, .ref (A 2)])), ((A 2), .inl (cy 0, 5, .inl dS)), ((A 3), .inr (7, [.int 7, .ref (A 4)])), ((A 4), .inl (cy 0, 42, .inl u6)), ((A 5), .inr (7, [.int 5, .ref (A 6)])), ((A 6), .inl (cy 0, 50, .inl dP)), ((A 7), .inr (2, [.ref (A 8), .ref (A 10), .int dBc])), ((A 8), .inr (7, [.int 12, .ref (A 9)])), ((A 9), .inl (cy 0, 720, .inl dN)), ((A 10), .inr (7, [.int 60, .ref (A 11)])), ((A 11), .inl (cy 0, 60, .inl dO)), ((A 12), .inr (3, [.ref (A 13), .int dCc])), ((A 13), .inr (7, [.int 5, .ref (A 14)])), ((A 14), .inl (cy 0, 40, .inl dC)), ((A 15), .inr (7, [.int 5, .ref (A 16)])), ((A 16), .inl (cy 0, 5, .inl dR))]) K hR [.int dMc, .int 6, .int 0] [] 3 rfl rfl (c_X6_put X.2.1 (gxD X) cy sd (A 3) (A 4) 7 42 u5 dMc 6 0 hw) gX4_addLast_X6_put rfl yok_X6_put rfl rfl (by decide) rfl (Nat.le_of_ble_eq_true rfl) dX4_addLast_72 [3, 4] rfl (by decide) (fun _ => rfl) (fun _ => rfl) (fun _ => rfl) ⟨rfl, rfl⟩ (fun u6 hw => ?_)
  refine g_aload_n K 1 dX4_addLast_75 rfl ?_
  refine g_dup K dX4_addLast_76 rfl ?_
  refine g_get K (C := RX4) (T := TX4) (N := 9) 0 6 in_X4_addLast_X4 (by decide +kernel) rfl rfl (by decide) rfl dX4_addLast_77 ?_
  refine g_iconst (v := 1) K dX4_addLast_80 rfl ?_
  refine g_iadd K dX4_addLast_81 ?_
  refine g_topi (fun x7 ex7 => ?_)
  replace hw := hw x7 ex7
  refine g_put (ty := .int) (ws' := [((A 0), .inr (5, [.ref (A 1), .ref (A 3), .ref (A 5), .ref (A 7), .ref (A 12), .ref (A 15), .int x7, .int dZ, .int dPc])), ((A 1), .inr (7, [.int 5, .ref (A 2)])), ((A 2), .inl (cy 0, 5, .inl dS)), ((A 3), .inr (7, [.int 7, .ref (A 4)])), ((A 4), .inl (cy 0, 42, .inl u6)), ((A 5), .inr (7, [.int 5, .ref (A 6)])), ((A 6), .inl (cy 0, 50, .inl dP)), ((A 7), .inr (2, [.ref (A 8), .ref (A 10), .int dBc])), ((A 8), .inr (7, [.int 12, .ref (A 9)])), ((A 9), .inl (cy 0, 720, .inl dN)), ((A 10), .inr (7, [.int 60, .ref (A 11)])), ((A 11), .inl (cy 0, 60, .inl dO)), ((A 12), .inr (3, [.ref (A 13), .int dCc])), ((A 13), .inr (7, [.int 5, .ref (A 14)])), ((A 14), .inl (cy 0, 40, .inl dC)), ((A 15), .inr (7, [.int 5, .ref (A 16)])), ((A 16), .inl (cy 0, 5, .inl dR))]) K (C := RX4) (T := TX4) (N := 9) 0 6 in_X4_addLast_X4 tyX4 tyX4_ok nmX4 (by decide +kernel) rfl rfl (by decide) rfl (by decide +kernel) rfl rfl (Nat.le_of_ble_eq_true rfl) rfl dX4_addLast_82 ?_
  refine g_iload K 0 dX4_addLast_85 rfl ?_
  exact g_zret K E Er (dMc, x7, u6) hw rfl rfl rfl (Nat.le_refl _) (Nat.le_refl _) dX4_addLast_87

def wp_X4_removeLast_L24 (x1 : Int32) (k24_61 : Int32 → XRow → Prop) : Nat → Int32 → XRow → Prop
  | 0, _, _ => False
  | fu + 1, v3, v4 => (5 ≤ v3 → (k24_61 v3 v4)) ∧ (¬ 5 ≤ v3 → (wp_X6_get 5 50 v4 x1 v3 (fun u5 : Int32 => wp_X6_move 5 50 v4 x1 6 v3 u5 (fun u6 : XRow => ∀ x7 : Int32, x7 = v3 + 1 → (wp_X4_removeLast_L24 x1 k24_61 fu x7 u6)))))
def wp_X4_removeLast (dP : XRow) (dMc : Int32) (post : (Int32 × Int32 × XRow) → Prop) : Prop := ∀ x1 : Int32, x1 = dMc - 1 → (wp_X6_sum 5 50 dP x1 (fun u2 : Int32 => ∃ fl, wp_X4_removeLast_L24 x1 (fun (v8 : Int32) (v9 : XRow) => post (u2, x1, v9)) fl 0 dP))
theorem in_X4_removeLast_X4 : ∀ w ∈ u_ws RX4 TX4 9, w ∈ wsX4_removeLast := by decide +kernel
set_option maxRecDepth 100000 in
set_option maxHeartbeats 4000000 in
theorem c_X4_removeLast (l : Launch) (D : va_G) (cy : Nat → ClassId) (sd : xSd) (A : Nat → Nat) (dS : XRow) (dM : XRow) (dP : XRow) (dN : XRow) (dBc : Int32) (dO : XRow) (dC : XRow) (dCc : Int32) (dR : XRow) (dMc : Int32) (dZ : Int32) (dPc : Int32) {post : (Int32 × Int32 × XRow) → Prop} (hw : wp_X4_removeLast dP dMc post) : Ctr l D (xTys cy) sd yX4_removeLast wsX4_removeLast ({ frames := 3, cells := 0, slots := 0, locals := 71 } : Room) [.ref (A 0)] (fun u : Int32 × Int32 × XRow => some (.int u.1)) [((A 0), .inr (5, [.ref (A 1), .ref (A 3), .ref (A 5), .ref (A 7), .ref (A 12), .ref (A 15), .int dMc, .int dZ, .int dPc])), ((A 1), .inr (7, [.int 5, .ref (A 2)])), ((A 2), .inl (cy 0, 5, .inl dS)), ((A 3), .inr (7, [.int 7, .ref (A 4)])), ((A 4), .inl (cy 0, 42, .inl dM)), ((A 5), .inr (7, [.int 5, .ref (A 6)])), ((A 6), .inl (cy 0, 50, .inl dP)), ((A 7), .inr (2, [.ref (A 8), .ref (A 10), .int dBc])), ((A 8), .inr (7, [.int 12, .ref (A 9)])), ((A 9), .inl (cy 0, 720, .inl dN)), ((A 10), .inr (7, [.int 60, .ref (A 11)])), ((A 11), .inl (cy 0, 60, .inl dO)), ((A 12), .inr (3, [.ref (A 13), .int dCc])), ((A 13), .inr (7, [.int 5, .ref (A 14)])), ((A 14), .inl (cy 0, 40, .inl dC)), ((A 15), .inr (7, [.int 5, .ref (A 16)])), ((A 16), .inl (cy 0, 5, .inl dR))] (fun u => [((A 0), .inr (5, [.ref (A 1), .ref (A 3), .ref (A 5), .ref (A 7), .ref (A 12), .ref (A 15), .int u.2.1, .int dZ, .int dPc])), ((A 1), .inr (7, [.int 5, .ref (A 2)])), ((A 2), .inl (cy 0, 5, .inl dS)), ((A 3), .inr (7, [.int 7, .ref (A 4)])), ((A 4), .inl (cy 0, 42, .inl dM)), ((A 5), .inr (7, [.int 5, .ref (A 6)])), ((A 6), .inl (cy 0, 50, .inl u.2.2)), ((A 7), .inr (2, [.ref (A 8), .ref (A 10), .int dBc])), ((A 8), .inr (7, [.int 12, .ref (A 9)])), ((A 9), .inl (cy 0, 720, .inl dN)), ((A 10), .inr (7, [.int 60, .ref (A 11)])), ((A 11), .inl (cy 0, 60, .inl dO)), ((A 12), .inr (3, [.ref (A 13), .int dCc])), ((A 13), .inr (7, [.int 5, .ref (A 14)])), ((A 14), .inl (cy 0, 40, .inl dC)), ((A 15), .inr (7, [.int 5, .ref (A 16)])), ((A 16), .inl (cy 0, 5, .inl dR))]) post := by
  refine Ctr.of (cc := cX4_removeLast) (maxL := 3) (ret := (some .int)) (lv0 := [(0, .ref (A 0))]) (by decide) rfl (Nat.le_of_ble_eq_true rfl) rfl ?_
  intro X El hR Er Enm ED E En K
  have K : Cx X cX4_removeLast RX4 wsX4_removeLast (xTys cy) sd := K
  have E : X.2.2.2.2.2.2.2.2.2.2.1 = xMQ X (fun u : Int32 × Int32 × XRow => some (.int u.1)) post (fun u => [((A 0), .inr (5, [.ref (A 1), .ref (A 3), .ref (A 5), .ref (A 7), .ref (A 12), .ref (A 15), .int u.2.1, .int dZ, .int dPc])), ((A 1), .inr (7, [.int 5, .ref (A 2)])), ((A 2), .inl (cy 0, 5, .inl dS)), ((A 3), .inr (7, [.int 7, .ref (A 4)])), ((A 4), .inl (cy 0, 42, .inl dM)), ((A 5), .inr (7, [.int 5, .ref (A 6)])), ((A 6), .inl (cy 0, 50, .inl u.2.2)), ((A 7), .inr (2, [.ref (A 8), .ref (A 10), .int dBc])), ((A 8), .inr (7, [.int 12, .ref (A 9)])), ((A 9), .inl (cy 0, 720, .inl dN)), ((A 10), .inr (7, [.int 60, .ref (A 11)])), ((A 11), .inl (cy 0, 60, .inl dO)), ((A 12), .inr (3, [.ref (A 13), .int dCc])), ((A 13), .inr (7, [.int 5, .ref (A 14)])), ((A 14), .inl (cy 0, 40, .inl dC)), ((A 15), .inr (7, [.int 5, .ref (A 16)])), ((A 16), .inl (cy 0, 5, .inl dR))]) 0 0 := E
  unfold wp_X4_removeLast at hw
  refine g_aload_n K 0 dX4_removeLast_0 rfl ?_
  refine g_dup K dX4_removeLast_1 rfl ?_
  refine g_get K (C := RX4) (T := TX4) (N := 9) 0 6 in_X4_removeLast_X4 (by decide +kernel) rfl rfl (by decide) rfl dX4_removeLast_2 ?_
  refine g_iconst (v := 1) K dX4_removeLast_5 rfl ?_
  refine g_isub K dX4_removeLast_6 ?_
  refine g_topi (fun x1 ex1 => ?_)
  replace hw := hw x1 ex1
  refine g_put (ty := .int) (ws' := [((A 0), .inr (5, [.ref (A 1), .ref (A 3), .ref (A 5), .ref (A 7), .ref (A 12), .ref (A 15), .int x1, .int dZ, .int dPc])), ((A 1), .inr (7, [.int 5, .ref (A 2)])), ((A 2), .inl (cy 0, 5, .inl dS)), ((A 3), .inr (7, [.int 7, .ref (A 4)])), ((A 4), .inl (cy 0, 42, .inl dM)), ((A 5), .inr (7, [.int 5, .ref (A 6)])), ((A 6), .inl (cy 0, 50, .inl dP)), ((A 7), .inr (2, [.ref (A 8), .ref (A 10), .int dBc])), ((A 8), .inr (7, [.int 12, .ref (A 9)])), ((A 9), .inl (cy 0, 720, .inl dN)), ((A 10), .inr (7, [.int 60, .ref (A 11)])), ((A 11), .inl (cy 0, 60, .inl dO)), ((A 12), .inr (3, [.ref (A 13), .int dCc])), ((A 13), .inr (7, [.int 5, .ref (A 14)])), ((A 14), .inl (cy 0, 40, .inl dC)), ((A 15), .inr (7, [.int 5, .ref (A 16)])), ((A 16), .inl (cy 0, 5, .inl dR))]) K (C := RX4) (T := TX4) (N := 9) 0 6 in_X4_removeLast_X4 tyX4 tyX4_ok nmX4 (by decide +kernel) rfl rfl (by decide) rfl (by decide +kernel) rfl rfl (Nat.le_of_ble_eq_true rfl) rfl dX4_removeLast_7 ?_
  refine g_aload_n K 0 dX4_removeLast_10 rfl ?_
  refine g_get K (C := RX4) (T := TX4) (N := 9) 0 2 in_X4_removeLast_X4 (by decide +kernel) rfl rfl (by decide) rfl dX4_removeLast_11 ?_
  refine g_aload_n K 0 dX4_removeLast_14 rfl ?_
  refine g_get K (C := RX4) (T := TX4) (N := 9) 0 6 in_X4_removeLast_X4 (by decide +kernel) rfl rfl (by decide) rfl dX4_removeLast_15 ?_
  refine g_callVr (st' := fun u2 => [.int u2]) K hR [.int x1] [] 5 rfl rfl (c_X6_sum X.2.1 (gxD X) cy sd (A 5) (A 6) 5 50 dP x1 hw) gX4_removeLast_X6_sum rfl yok_X6_sum rfl rfl (by decide) rfl (Nat.le_of_ble_eq_true rfl) dX4_removeLast_18 [5, 6] rfl (by decide) (fun _ => rfl) ⟨rfl, rfl⟩ (fun u2 hw => ?_)
  refine g_istore_n (lv' := [(1, .int u2), (0, .ref (A 0))]) K dX4_removeLast_21 rfl (by rw [En]; decide) rfl ?_
  refine g_iconst (v := 0) K dX4_removeLast_22 rfl ?_
  refine g_istore_n (lv' := [(2, .int 0), (1, .int u2), (0, .ref (A 0))]) K dX4_removeLast_23 rfl (by rw [En]; decide) rfl ?_
  obtain ⟨fl, hw⟩ := hw
  have key : ∀ (k24_61 : Int32 → XRow → Prop), (∀ (v3 : Int32) (v4 : XRow), k24_61 v3 v4 → Gx X 0 0 [((A 0), .inr (5, [.ref (A 1), .ref (A 3), .ref (A 5), .ref (A 7), .ref (A 12), .ref (A 15), .int x1, .int dZ, .int dPc])), ((A 1), .inr (7, [.int 5, .ref (A 2)])), ((A 2), .inl (cy 0, 5, .inl dS)), ((A 3), .inr (7, [.int 7, .ref (A 4)])), ((A 4), .inl (cy 0, 42, .inl dM)), ((A 5), .inr (7, [.int 5, .ref (A 6)])), ((A 6), .inl (cy 0, 50, .inl v4)), ((A 7), .inr (2, [.ref (A 8), .ref (A 10), .int dBc])), ((A 8), .inr (7, [.int 12, .ref (A 9)])), ((A 9), .inl (cy 0, 720, .inl dN)), ((A 10), .inr (7, [.int 60, .ref (A 11)])), ((A 11), .inl (cy 0, 60, .inl dO)), ((A 12), .inr (3, [.ref (A 13), .int dCc])), ((A 13), .inr (7, [.int 5, .ref (A 14)])), ((A 14), .inl (cy 0, 40, .inl dC)), ((A 15), .inr (7, [.int 5, .ref (A 16)])), ((A 16), .inl (cy 0, 5, .inl dR))] [(2, .int v3), (1, .int u2), (0, .ref (A 0))] 61 []) → ∀ (n : Nat) (v3 : Int32) (v4 : XRow), wp_X4_removeLast_L24 x1 k24_61 n v3 v4 → Gx X 0 0 [((A 0), .inr (5, [.ref (A 1), .ref (A 3), .ref (A 5), .ref (A 7), .ref (A 12), .ref (A 15), .int x1, .int dZ, .int dPc])), ((A 1), .inr (7, [.int 5, .ref (A 2)])), ((A 2), .inl (cy 0, 5, .inl dS)), ((A 3), .inr (7, [.int 7, .ref (A 4)])), ((A 4), .inl (cy 0, 42, .inl dM)), ((A 5), .inr (7, [.int 5, .ref (A 6)])), ((A 6), .inl (cy 0, 50, .inl v4)), ((A 7), .inr (2, [.ref (A 8), .ref (A 10), .int dBc])), ((A 8), .inr (7, [.int 12, .ref (A 9)])), ((A 9), .inl (cy 0, 720, .inl dN)), ((A 10), .inr (7, [.int 60, .ref (A 11)])), ((A 11), .inl (cy 0, 60, .inl dO)), ((A 12), .inr (3, [.ref (A 13), .int dCc])), ((A 13), .inr (7, [.int 5, .ref (A 14)])), ((A 14), .inl (cy 0, 40, .inl dC)), ((A 15), .inr (7, [.int 5, .ref (A 16)])), ((A 16), .inl (cy 0, 5, .inl dR))] [(2, .int v3), (1, .int u2), (0, .ref (A 0))] 24 [] := by
    intro k24_61 hx61 n
    induction n with
    | zero => intro v3 v4 hw; exact hw.elim
    | succ n ih =>
      intro v3 v4 hw
      refine g_iload_n K 0 dX4_removeLast_24 rfl ?_
      refine g_iconst (v := 5) K dX4_removeLast_25 rfl ?_
      refine g_icmp_ge (tgt := 61) K dX4_removeLast_26 (by decide) (fun hc => ?_) (fun hc => ?_)
      · replace hw := hw.1 hc
        exact hx61 _ _ hw
      · replace hw := hw.2 hc
        refine g_aload_n K 2 dX4_removeLast_29 rfl ?_
        refine g_get K (C := RX4) (T := TX4) (N := 9) 0 2 in_X4_removeLast_X4 (by decide +kernel) rfl rfl (by decide) rfl dX4_removeLast_30 ?_
        refine g_aload_n K 2 dX4_removeLast_33 rfl ?_
        refine g_get K (C := RX4) (T := TX4) (N := 9) 0 6 in_X4_removeLast_X4 (by decide +kernel) rfl rfl (by decide) rfl dX4_removeLast_34 ?_
        refine g_bipush (v := 6) K dX4_removeLast_37 rfl ?_
        refine g_iload_n K 0 dX4_removeLast_39 rfl ?_
        refine g_aload_n K 2 dX4_removeLast_40 rfl ?_
        refine g_get K (C := RX4) (T := TX4) (N := 9) 0 2 in_X4_removeLast_X4 (by decide +kernel) rfl rfl (by decide) rfl dX4_removeLast_41 ?_
        refine g_aload_n K 2 dX4_removeLast_44 rfl ?_
        refine g_get K (C := RX4) (T := TX4) (N := 9) 0 6 in_X4_removeLast_X4 (by decide +kernel) rfl rfl (by decide) rfl dX4_removeLast_45 ?_
        refine g_iload_n K 0 dX4_removeLast_48 rfl ?_
        refine g_callVr (st' := fun u5 => [.int u5, .int v3, .int 6, .int x1, .ref (A 5)]) K hR [.int x1, .int v3] [.int v3, .int 6, .int x1, .ref (A 5)] 5 rfl rfl (c_X6_get X.2.1 (gxD X) cy sd (A 5) (A 6) 5 50 v4 x1 v3 hw) gX4_removeLast_X6_get rfl yok_X6_get rfl rfl (by decide) rfl (Nat.le_of_ble_eq_true rfl) dX4_removeLast_49 [5, 6] rfl (by decide) (fun _ => rfl) ⟨rfl, rfl⟩ (fun u5 hw => ?_)
        refine g_callV (st' := fun u6 => []) (ws' := fun u6 => [((A 0), .inr (5, [.ref (A 1), .ref (A 3), .ref (A 5), .ref (A 7), .ref (A 12), .ref (A 15), .int x1, .int dZ, .int dPc])), ((A 1), .inr (7, [.int 5, .ref (A 2)])), ((A 2), .inl (cy 0, 5, .inl dS)), ((A 3), .inr (7, [.int 7, .ref (A 4)])), ((A 4), .inl (cy 0, 42, .inl dM)), ((A 5), .inr (7, [.int 5, .ref (A 6)])), ((A 6), .inl (cy 0, 50, .inl u6)), ((A 7), .inr (2, [.ref (A 8), .ref (A 10), .int dBc])), ((A 8), .inr (7, [.int 12, .ref (A 9)])), ((A 9), .inl (cy 0, 720, .inl dN)), ((A 10), .inr (7, [.int 60, .ref (A 11)])), ((A 11), .inl (cy 0, 60, .inl dO)), ((A 12), .inr (3, [.ref (A 13), .int dCc])), ((A 13), .inr (7, [.int 5, .ref (A 14)])), ((A 14), .inl (cy 0, 40, .inl dC)), ((A 15), .inr (7, [.int 5, .ref (A 16)])), ((A 16), .inl (cy 0, 5, .inl dR))]) K hR [.int x1, .int 6, .int v3, .int u5] [] 5 rfl rfl (c_X6_move X.2.1 (gxD X) cy sd (A 5) (A 6) 5 50 v4 x1 6 v3 u5 hw) gX4_removeLast_X6_move rfl yok_X6_move rfl rfl (by decide) rfl (Nat.le_of_ble_eq_true rfl) dX4_removeLast_52 [5, 6] rfl (by decide) (fun _ => rfl) (fun _ => rfl) (fun _ => rfl) ⟨rfl, rfl⟩ (fun u6 hw => ?_)
        obtain ⟨x7, ex7⟩ : ∃ z : Int32, z = v3 + 1 := ⟨_, rfl⟩
        replace hw := hw x7 ex7
        refine g_iinc (v := x7) (lv' := [(2, .int x7), (1, .int u2), (0, .ref (A 0))]) K 0 dX4_removeLast_55 rfl (by rw [ex7]; rfl) (by rw [En]; decide) rfl ?_
        refine g_goto (tgt := 24) K dX4_removeLast_58 (by decide) ?_
        exact ih _ _ hw
  refine key _ (fun v8 v9 hw => ?_) fl _ _ hw
  refine g_iload_n K 1 dX4_removeLast_61 rfl ?_
  exact g_zret K E Er (u2, x1, v9) hw rfl rfl rfl (Nat.le_refl _) (Nat.le_refl _) dX4_removeLast_62

def wp_X4_rateOf (dM : XRow) (p0 : Int32) (p1 : Int32) (p2 : Bool) (post : Int32 → Prop) : Prop := wp_X6_get 7 42 dM p0 3 (fun u1 : Int32 => ∀ x2 : Int32, x2 = (xMax 0 (p1 - u1)) / 10 → ((p2 = true → (wp_X6_get 7 42 dM p0 2 (fun u6 : Int32 => post (xMin 90 (u6 + x2))))) ∧ (p2 = false → (wp_X6_get 7 42 dM p0 4 (fun u3 : Int32 => ∀ x4 : Int32, x4 = u3 * x2 → (wp_X6_get 7 42 dM p0 1 (fun u5 : Int32 => post (xMax 10 (u5 - x4)))))))))
theorem in_X4_rateOf_X4 : ∀ w ∈ u_ws RX4 TX4 9, w ∈ wsX4_rateOf := by decide +kernel
set_option maxRecDepth 100000 in
set_option maxHeartbeats 4000000 in
theorem c_X4_rateOf (l : Launch) (D : va_G) (cy : Nat → ClassId) (sd : xSd) (A : Nat → Nat) (dS : XRow) (dM : XRow) (dP : XRow) (dN : XRow) (dBc : Int32) (dO : XRow) (dC : XRow) (dCc : Int32) (dR : XRow) (dMc : Int32) (dZ : Int32) (dPc : Int32) (p0 : Int32) (p1 : Int32) (p2 : Bool) {post : Int32 → Prop} (hw : wp_X4_rateOf dM p0 p1 p2 post) : Ctr l D (xTys cy) sd yX4_rateOf wsX4_rateOf ({ frames := 1, cells := 0, slots := 0, locals := 23 } : Room) [.ref (A 0), .int p0, .int p1, .int (bI p2)] (fun u : Int32 => some (.int u)) [((A 0), .inr (5, [.ref (A 1), .ref (A 3), .ref (A 5), .ref (A 7), .ref (A 12), .ref (A 15), .int dMc, .int dZ, .int dPc])), ((A 1), .inr (7, [.int 5, .ref (A 2)])), ((A 2), .inl (cy 0, 5, .inl dS)), ((A 3), .inr (7, [.int 7, .ref (A 4)])), ((A 4), .inl (cy 0, 42, .inl dM)), ((A 5), .inr (7, [.int 5, .ref (A 6)])), ((A 6), .inl (cy 0, 50, .inl dP)), ((A 7), .inr (2, [.ref (A 8), .ref (A 10), .int dBc])), ((A 8), .inr (7, [.int 12, .ref (A 9)])), ((A 9), .inl (cy 0, 720, .inl dN)), ((A 10), .inr (7, [.int 60, .ref (A 11)])), ((A 11), .inl (cy 0, 60, .inl dO)), ((A 12), .inr (3, [.ref (A 13), .int dCc])), ((A 13), .inr (7, [.int 5, .ref (A 14)])), ((A 14), .inl (cy 0, 40, .inl dC)), ((A 15), .inr (7, [.int 5, .ref (A 16)])), ((A 16), .inl (cy 0, 5, .inl dR))] (fun _ => [((A 0), .inr (5, [.ref (A 1), .ref (A 3), .ref (A 5), .ref (A 7), .ref (A 12), .ref (A 15), .int dMc, .int dZ, .int dPc])), ((A 1), .inr (7, [.int 5, .ref (A 2)])), ((A 2), .inl (cy 0, 5, .inl dS)), ((A 3), .inr (7, [.int 7, .ref (A 4)])), ((A 4), .inl (cy 0, 42, .inl dM)), ((A 5), .inr (7, [.int 5, .ref (A 6)])), ((A 6), .inl (cy 0, 50, .inl dP)), ((A 7), .inr (2, [.ref (A 8), .ref (A 10), .int dBc])), ((A 8), .inr (7, [.int 12, .ref (A 9)])), ((A 9), .inl (cy 0, 720, .inl dN)), ((A 10), .inr (7, [.int 60, .ref (A 11)])), ((A 11), .inl (cy 0, 60, .inl dO)), ((A 12), .inr (3, [.ref (A 13), .int dCc])), ((A 13), .inr (7, [.int 5, .ref (A 14)])), ((A 14), .inl (cy 0, 40, .inl dC)), ((A 15), .inr (7, [.int 5, .ref (A 16)])), ((A 16), .inl (cy 0, 5, .inl dR))]) post := by
  refine Ctr.of (cc := cX4_rateOf) (maxL := 6) (ret := (some .int)) (lv0 := [(0, .ref (A 0)), (1, .int p0), (2, .int p1), (3, .int (bI p2))]) (by decide) rfl (Nat.le_of_ble_eq_true rfl) rfl ?_
  intro X El hR Er Enm ED E En K
  have K : Cx X cX4_rateOf RX4 wsX4_rateOf (xTys cy) sd := K
  have E : X.2.2.2.2.2.2.2.2.2.2.1 = xMQ X (fun u : Int32 => some (.int u)) post (fun _ => [((A 0), .inr (5, [.ref (A 1), .ref (A 3), .ref (A 5), .ref (A 7), .ref (A 12), .ref (A 15), .int dMc, .int dZ, .int dPc])), ((A 1), .inr (7, [.int 5, .ref (A 2)])), ((A 2), .inl (cy 0, 5, .inl dS)), ((A 3), .inr (7, [.int 7, .ref (A 4)])), ((A 4), .inl (cy 0, 42, .inl dM)), ((A 5), .inr (7, [.int 5, .ref (A 6)])), ((A 6), .inl (cy 0, 50, .inl dP)), ((A 7), .inr (2, [.ref (A 8), .ref (A 10), .int dBc])), ((A 8), .inr (7, [.int 12, .ref (A 9)])), ((A 9), .inl (cy 0, 720, .inl dN)), ((A 10), .inr (7, [.int 60, .ref (A 11)])), ((A 11), .inl (cy 0, 60, .inl dO)), ((A 12), .inr (3, [.ref (A 13), .int dCc])), ((A 13), .inr (7, [.int 5, .ref (A 14)])), ((A 14), .inl (cy 0, 40, .inl dC)), ((A 15), .inr (7, [.int 5, .ref (A 16)])), ((A 16), .inl (cy 0, 5, .inl dR))]) 0 0 := E
  unfold wp_X4_rateOf at hw
  refine g_iconst (v := 0) K dX4_rateOf_0 rfl ?_
  refine g_iload_n K 2 dX4_rateOf_1 rfl ?_
  refine g_aload_n K 0 dX4_rateOf_2 rfl ?_
  refine g_get K (C := RX4) (T := TX4) (N := 9) 0 1 in_X4_rateOf_X4 (by decide +kernel) rfl rfl (by decide) rfl dX4_rateOf_3 ?_
  refine g_iload_n K 1 dX4_rateOf_6 rfl ?_
  refine g_iconst (v := 3) K dX4_rateOf_7 rfl ?_
  refine g_callVr (st' := fun u1 => [.int u1, .int p1, .int 0]) K hR [.int p0, .int 3] [.int p1, .int 0] 3 rfl rfl (c_X6_get X.2.1 (gxD X) cy sd (A 3) (A 4) 7 42 dM p0 3 hw) gX4_rateOf_X6_get rfl yok_X6_get rfl rfl (by decide) rfl (Nat.le_of_ble_eq_true rfl) dX4_rateOf_8 [3, 4] rfl (by decide) (fun _ => rfl) ⟨rfl, rfl⟩ (fun u1 hw => ?_)
  refine g_isub K dX4_rateOf_11 ?_
  refine g_mmax K hR (by decide +kernel) (by decide +kernel) (by decide +kernel) (by decide +kernel) (by decide) (Nat.le_of_ble_eq_true rfl) dX4_rateOf_12 ?_
  refine g_bipush (v := 10) K dX4_rateOf_15 rfl ?_
  refine g_idiv K dX4_rateOf_17 (by decide) ?_
  refine g_topi (fun x2 ex2 => ?_)
  replace hw := hw x2 ex2
  refine g_istore (lv' := [(4, .int x2), (0, .ref (A 0)), (1, .int p0), (2, .int p1), (3, .int (bI p2))]) K dX4_rateOf_18 (by rw [En]; decide) rfl ?_
  refine g_iload_n K 4 dX4_rateOf_20 rfl ?_
  refine g_ifb_eq (tgt := 42) K dX4_rateOf_21 (by decide) (fun hc => ?_) (fun hc => ?_)
  · replace hw := hw.2 hc
    refine g_aload_n K 1 dX4_rateOf_42 rfl ?_
    refine g_get K (C := RX4) (T := TX4) (N := 9) 0 1 in_X4_rateOf_X4 (by decide +kernel) rfl rfl (by decide) rfl dX4_rateOf_43 ?_
    refine g_iload_n K 2 dX4_rateOf_46 rfl ?_
    refine g_iconst (v := 4) K dX4_rateOf_47 rfl ?_
    refine g_callVr (st' := fun u3 => [.int u3]) K hR [.int p0, .int 4] [] 3 rfl rfl (c_X6_get X.2.1 (gxD X) cy sd (A 3) (A 4) 7 42 dM p0 4 hw) gX4_rateOf_X6_get rfl yok_X6_get rfl rfl (by decide) rfl (Nat.le_of_ble_eq_true rfl) dX4_rateOf_48 [3, 4] rfl (by decide) (fun _ => rfl) ⟨rfl, rfl⟩ (fun u3 hw => ?_)
    refine g_iload K 0 dX4_rateOf_51 rfl ?_
    refine g_imul K dX4_rateOf_53 ?_
    refine g_topi (fun x4 ex4 => ?_)
    replace hw := hw x4 ex4
    refine g_istore (lv' := [(5, .int x4), (4, .int x2), (0, .ref (A 0)), (1, .int p0), (2, .int p1), (3, .int (bI p2))]) K dX4_rateOf_54 (by rw [En]; decide) rfl ?_
    refine g_bipush (v := 10) K dX4_rateOf_56 rfl ?_
    refine g_aload_n K 2 dX4_rateOf_58 rfl ?_
    refine g_get K (C := RX4) (T := TX4) (N := 9) 0 1 in_X4_rateOf_X4 (by decide +kernel) rfl rfl (by decide) rfl dX4_rateOf_59 ?_
    refine g_iload_n K 3 dX4_rateOf_62 rfl ?_
    refine g_iconst (v := 1) K dX4_rateOf_63 rfl ?_
    refine g_callVr (st' := fun u5 => [.int u5, .int 10]) K hR [.int p0, .int 1] [.int 10] 3 rfl rfl (c_X6_get X.2.1 (gxD X) cy sd (A 3) (A 4) 7 42 dM p0 1 hw) gX4_rateOf_X6_get rfl yok_X6_get rfl rfl (by decide) rfl (Nat.le_of_ble_eq_true rfl) dX4_rateOf_64 [3, 4] rfl (by decide) (fun _ => rfl) ⟨rfl, rfl⟩ (fun u5 hw => ?_)
    refine g_iload K 0 dX4_rateOf_67 rfl ?_
    refine g_isub K dX4_rateOf_69 ?_
    refine g_mmax K hR (by decide +kernel) (by decide +kernel) (by decide +kernel) (by decide +kernel) (by decide) (Nat.le_of_ble_eq_true rfl) dX4_rateOf_70 ?_
    exact g_zret K E Er (xMax 10 (u5 - x4)) hw rfl rfl rfl (Nat.le_refl _) (Nat.le_refl _) dX4_rateOf_73
  · replace hw := hw.1 hc
    refine g_bipush (v := 90) K dX4_rateOf_24 rfl ?_
    refine g_aload_n K 1 dX4_rateOf_26 rfl ?_
    refine g_get K (C := RX4) (T := TX4) (N := 9) 0 1 in_X4_rateOf_X4 (by decide +kernel) rfl rfl (by decide) rfl dX4_rateOf_27 ?_
    refine g_iload_n K 2 dX4_rateOf_30 rfl ?_
    refine g_iconst (v := 2) K dX4_rateOf_31 rfl ?_
    refine g_callVr (st' := fun u6 => [.int u6, .int 90]) K hR [.int p0, .int 2] [.int 90] 3 rfl rfl (c_X6_get X.2.1 (gxD X) cy sd (A 3) (A 4) 7 42 dM p0 2 hw) gX4_rateOf_X6_get rfl yok_X6_get rfl rfl (by decide) rfl (Nat.le_of_ble_eq_true rfl) dX4_rateOf_32 [3, 4] rfl (by decide) (fun _ => rfl) ⟨rfl, rfl⟩ (fun u6 hw => ?_)
    refine g_iload K 0 dX4_rateOf_35 rfl ?_
    refine g_iadd K dX4_rateOf_37 ?_
    refine g_mmin K hR (by decide +kernel) (by decide +kernel) (by decide +kernel) (by decide +kernel) (by decide) (Nat.le_of_ble_eq_true rfl) dX4_rateOf_38 ?_
    exact g_zret K E Er (xMin 90 (u6 + x2)) hw rfl rfl rfl (Nat.le_refl _) (Nat.le_refl _) dX4_rateOf_41

def wp_X4_faultOfFeed (dP : XRow) (p0 : Int32) (p1 : Int32) (post : (Fin 4) → Prop) : Prop := wp_X8_isMaterial p0 (fun u1 : Bool => (u1 = true → (wp_X8_isWithin p1 1 999 (fun u2 : Bool => (u2 = true → (wp_X6_sum 5 50 dP 6 (fun u3 : Int32 => ((u3 + p1) ≤ 9999 → (post (0 : Fin 4))) ∧ (¬ (u3 + p1) ≤ 9999 → (post (3 : Fin 4)))))) ∧ (u2 = false → (post (2 : Fin 4)))))) ∧ (u1 = false → (post (1 : Fin 4))))
theorem in_X4_faultOfFeed_X4 : ∀ w ∈ u_ws RX4 TX4 9, w ∈ wsX4_faultOfFeed := by decide +kernel
set_option maxRecDepth 100000 in
set_option maxHeartbeats 4000000 in
theorem c_X4_faultOfFeed (l : Launch) (D : va_G) (cy : Nat → ClassId) (sd : xSd) (A : Nat → Nat) (dS : XRow) (dM : XRow) (dP : XRow) (dN : XRow) (dBc : Int32) (dO : XRow) (dC : XRow) (dCc : Int32) (dR : XRow) (dMc : Int32) (dZ : Int32) (dPc : Int32) (p0 : Int32) (p1 : Int32) {post : (Fin 4) → Prop} (hw : wp_X4_faultOfFeed dP p0 p1 post) : Ctr l D (xTys cy) sd yX4_faultOfFeed wsX4_faultOfFeed ({ frames := 2, cells := 0, slots := 0, locals := 46 } : Room) [.ref (A 0), .int p0, .int p1] (fun u : Fin 4 => some (.ref (sd.1 (u).val))) [((A 0), .inr (5, [.ref (A 1), .ref (A 3), .ref (A 5), .ref (A 7), .ref (A 12), .ref (A 15), .int dMc, .int dZ, .int dPc])), ((A 1), .inr (7, [.int 5, .ref (A 2)])), ((A 2), .inl (cy 0, 5, .inl dS)), ((A 3), .inr (7, [.int 7, .ref (A 4)])), ((A 4), .inl (cy 0, 42, .inl dM)), ((A 5), .inr (7, [.int 5, .ref (A 6)])), ((A 6), .inl (cy 0, 50, .inl dP)), ((A 7), .inr (2, [.ref (A 8), .ref (A 10), .int dBc])), ((A 8), .inr (7, [.int 12, .ref (A 9)])), ((A 9), .inl (cy 0, 720, .inl dN)), ((A 10), .inr (7, [.int 60, .ref (A 11)])), ((A 11), .inl (cy 0, 60, .inl dO)), ((A 12), .inr (3, [.ref (A 13), .int dCc])), ((A 13), .inr (7, [.int 5, .ref (A 14)])), ((A 14), .inl (cy 0, 40, .inl dC)), ((A 15), .inr (7, [.int 5, .ref (A 16)])), ((A 16), .inl (cy 0, 5, .inl dR))] (fun _ => [((A 0), .inr (5, [.ref (A 1), .ref (A 3), .ref (A 5), .ref (A 7), .ref (A 12), .ref (A 15), .int dMc, .int dZ, .int dPc])), ((A 1), .inr (7, [.int 5, .ref (A 2)])), ((A 2), .inl (cy 0, 5, .inl dS)), ((A 3), .inr (7, [.int 7, .ref (A 4)])), ((A 4), .inl (cy 0, 42, .inl dM)), ((A 5), .inr (7, [.int 5, .ref (A 6)])), ((A 6), .inl (cy 0, 50, .inl dP)), ((A 7), .inr (2, [.ref (A 8), .ref (A 10), .int dBc])), ((A 8), .inr (7, [.int 12, .ref (A 9)])), ((A 9), .inl (cy 0, 720, .inl dN)), ((A 10), .inr (7, [.int 60, .ref (A 11)])), ((A 11), .inl (cy 0, 60, .inl dO)), ((A 12), .inr (3, [.ref (A 13), .int dCc])), ((A 13), .inr (7, [.int 5, .ref (A 14)])), ((A 14), .inl (cy 0, 40, .inl dC)), ((A 15), .inr (7, [.int 5, .ref (A 16)])), ((A 16), .inl (cy 0, 5, .inl dR))]) post := by
  refine Ctr.of (cc := cX4_faultOfFeed) (maxL := 3) (ret := (some (.object "RecyclingSorter$Fault"))) (lv0 := [(0, .ref (A 0)), (1, .int p0), (2, .int p1)]) (by decide) rfl (Nat.le_of_ble_eq_true rfl) rfl ?_
  intro X El hR Er Enm ED E En K
  have K : Cx X cX4_faultOfFeed RX4 wsX4_faultOfFeed (xTys cy) sd := K
  have E : X.2.2.2.2.2.2.2.2.2.2.1 = xMQ X (fun u : Fin 4 => some (.ref (sd.1 (u).val))) post (fun _ => [((A 0), .inr (5, [.ref (A 1), .ref (A 3), .ref (A 5), .ref (A 7), .ref (A 12), .ref (A 15), .int dMc, .int dZ, .int dPc])), ((A 1), .inr (7, [.int 5, .ref (A 2)])), ((A 2), .inl (cy 0, 5, .inl dS)), ((A 3), .inr (7, [.int 7, .ref (A 4)])), ((A 4), .inl (cy 0, 42, .inl dM)), ((A 5), .inr (7, [.int 5, .ref (A 6)])), ((A 6), .inl (cy 0, 50, .inl dP)), ((A 7), .inr (2, [.ref (A 8), .ref (A 10), .int dBc])), ((A 8), .inr (7, [.int 12, .ref (A 9)])), ((A 9), .inl (cy 0, 720, .inl dN)), ((A 10), .inr (7, [.int 60, .ref (A 11)])), ((A 11), .inl (cy 0, 60, .inl dO)), ((A 12), .inr (3, [.ref (A 13), .int dCc])), ((A 13), .inr (7, [.int 5, .ref (A 14)])), ((A 14), .inl (cy 0, 40, .inl dC)), ((A 15), .inr (7, [.int 5, .ref (A 16)])), ((A 16), .inl (cy 0, 5, .inl dR))]) 0 0 := E
  unfold wp_X4_faultOfFeed at hw
  refine g_iload_n K 1 dX4_faultOfFeed_0 rfl ?_
  refine g_callSNr (st' := fun u1 => [.int (bI u1)]) K hR [.int p0] [] RX8 (by decide +kernel) (by decide +kernel) (by decide +kernel) (c_X8_isMaterial X.2.1 (gxD X) cy sd p0 hw) gX4_faultOfFeed_X8_isMaterial_n87 rfl yok_X8_isMaterial rfl (by decide) rfl (Nat.le_of_ble_eq_true rfl) dX4_faultOfFeed_1 [] rfl (by decide) (fun _ => rfl) ⟨rfl, rfl⟩ (fun u1 hw => ?_)
  refine g_ifb_ne (tgt := 11) K dX4_faultOfFeed_4 (by decide) (fun hc => ?_) (fun hc => ?_)
  · replace hw := hw.1 hc
    refine g_iload_n K 2 dX4_faultOfFeed_11 rfl ?_
    refine g_iconst (v := 1) K dX4_faultOfFeed_12 rfl ?_
    refine g_sipush (v := 999) K dX4_faultOfFeed_13 rfl ?_
    refine g_callSNr (st' := fun u2 => [.int (bI u2)]) K hR [.int p1, .int 1, .int 999] [] RX8 (by decide +kernel) (by decide +kernel) (by decide +kernel) (c_X8_isWithin X.2.1 (gxD X) cy sd p1 1 999 hw) gX4_faultOfFeed_X8_isWithin_n97 rfl yok_X8_isWithin rfl (by decide) rfl (Nat.le_of_ble_eq_true rfl) dX4_faultOfFeed_16 [] rfl (by decide) (fun _ => rfl) ⟨rfl, rfl⟩ (fun u2 hw => ?_)
    refine g_ifb_ne (tgt := 26) K dX4_faultOfFeed_19 (by decide) (fun hc => ?_) (fun hc => ?_)
    · replace hw := hw.1 hc
      refine g_aload_n K 0 dX4_faultOfFeed_26 rfl ?_
      refine g_get K (C := RX4) (T := TX4) (N := 9) 0 2 in_X4_faultOfFeed_X4 (by decide +kernel) rfl rfl (by decide) rfl dX4_faultOfFeed_27 ?_
      refine g_bipush (v := 6) K dX4_faultOfFeed_30 rfl ?_
      refine g_callVr (st' := fun u3 => [.int u3]) K hR [.int 6] [] 5 rfl rfl (c_X6_sum X.2.1 (gxD X) cy sd (A 5) (A 6) 5 50 dP 6 hw) gX4_faultOfFeed_X6_sum rfl yok_X6_sum rfl rfl (by decide) rfl (Nat.le_of_ble_eq_true rfl) dX4_faultOfFeed_32 [5, 6] rfl (by decide) (fun _ => rfl) ⟨rfl, rfl⟩ (fun u3 hw => ?_)
      refine g_iload_n K 2 dX4_faultOfFeed_35 rfl ?_
      refine g_iadd K dX4_faultOfFeed_36 ?_
      refine g_sipush (v := 9999) K dX4_faultOfFeed_37 rfl ?_
      refine g_icmp_le (tgt := 49) K dX4_faultOfFeed_40 (by decide) (fun hc => ?_) (fun hc => ?_)
      · replace hw := hw.1 hc
        refine g_getsF K 0 (by decide) rfl (by decide +kernel) dX4_faultOfFeed_49 ?_
        exact g_aret K E Er (Or.inl ⟨_, rfl⟩) (0 : Fin 4) hw rfl (Or.inr ⟨_, rfl⟩) rfl (Nat.le_refl _) (Nat.le_refl _) dX4_faultOfFeed_52
      · replace hw := hw.2 hc
        refine g_getsF K 3 (by decide) rfl (by decide +kernel) dX4_faultOfFeed_43 ?_
        refine g_goto (tgt := 52) K dX4_faultOfFeed_46 (by decide) ?_
        exact g_aret K E Er (Or.inl ⟨_, rfl⟩) (3 : Fin 4) hw rfl (Or.inr ⟨_, rfl⟩) rfl (Nat.le_refl _) (Nat.le_refl _) dX4_faultOfFeed_52
    · replace hw := hw.2 hc
      refine g_getsF K 2 (by decide) rfl (by decide +kernel) dX4_faultOfFeed_22 ?_
      exact g_aret K E Er (Or.inl ⟨_, rfl⟩) (2 : Fin 4) hw rfl (Or.inr ⟨_, rfl⟩) rfl (Nat.le_refl _) (Nat.le_refl _) dX4_faultOfFeed_25
  · replace hw := hw.2 hc
    refine g_getsF K 1 (by decide) rfl (by decide +kernel) dX4_faultOfFeed_7 ?_
    exact g_aret K E Er (Or.inl ⟨_, rfl⟩) (1 : Fin 4) hw rfl (Or.inr ⟨_, rfl⟩) rfl (Nat.le_refl _) (Nat.le_refl _) dX4_faultOfFeed_10

def wp_X4_fill (dP : XRow) (p0 : Int32) (p1 : Int32) (post : (Int32 × XRow) → Prop) : Prop := wp_X6_add 5 50 dP 6 p0 p1 (fun u1 : XRow => wp_X6_add 5 50 u1 8 p0 p1 (fun u2 : XRow => wp_X6_get 5 50 u2 6 p0 (fun u3 : Int32 => post (u3, u2))))
theorem in_X4_fill_X4 : ∀ w ∈ u_ws RX4 TX4 9, w ∈ wsX4_fill := by decide +kernel
set_option maxRecDepth 100000 in
set_option maxHeartbeats 4000000 in
theorem c_X4_fill (l : Launch) (D : va_G) (cy : Nat → ClassId) (sd : xSd) (A : Nat → Nat) (dS : XRow) (dM : XRow) (dP : XRow) (dN : XRow) (dBc : Int32) (dO : XRow) (dC : XRow) (dCc : Int32) (dR : XRow) (dMc : Int32) (dZ : Int32) (dPc : Int32) (p0 : Int32) (p1 : Int32) {post : (Int32 × XRow) → Prop} (hw : wp_X4_fill dP p0 p1 post) : Ctr l D (xTys cy) sd yX4_fill wsX4_fill ({ frames := 2, cells := 0, slots := 0, locals := 47 } : Room) [.ref (A 0), .int p0, .int p1] (fun u : Int32 × XRow => some (.int u.1)) [((A 0), .inr (5, [.ref (A 1), .ref (A 3), .ref (A 5), .ref (A 7), .ref (A 12), .ref (A 15), .int dMc, .int dZ, .int dPc])), ((A 1), .inr (7, [.int 5, .ref (A 2)])), ((A 2), .inl (cy 0, 5, .inl dS)), ((A 3), .inr (7, [.int 7, .ref (A 4)])), ((A 4), .inl (cy 0, 42, .inl dM)), ((A 5), .inr (7, [.int 5, .ref (A 6)])), ((A 6), .inl (cy 0, 50, .inl dP)), ((A 7), .inr (2, [.ref (A 8), .ref (A 10), .int dBc])), ((A 8), .inr (7, [.int 12, .ref (A 9)])), ((A 9), .inl (cy 0, 720, .inl dN)), ((A 10), .inr (7, [.int 60, .ref (A 11)])), ((A 11), .inl (cy 0, 60, .inl dO)), ((A 12), .inr (3, [.ref (A 13), .int dCc])), ((A 13), .inr (7, [.int 5, .ref (A 14)])), ((A 14), .inl (cy 0, 40, .inl dC)), ((A 15), .inr (7, [.int 5, .ref (A 16)])), ((A 16), .inl (cy 0, 5, .inl dR))] (fun u => [((A 0), .inr (5, [.ref (A 1), .ref (A 3), .ref (A 5), .ref (A 7), .ref (A 12), .ref (A 15), .int dMc, .int dZ, .int dPc])), ((A 1), .inr (7, [.int 5, .ref (A 2)])), ((A 2), .inl (cy 0, 5, .inl dS)), ((A 3), .inr (7, [.int 7, .ref (A 4)])), ((A 4), .inl (cy 0, 42, .inl dM)), ((A 5), .inr (7, [.int 5, .ref (A 6)])), ((A 6), .inl (cy 0, 50, .inl u.2)), ((A 7), .inr (2, [.ref (A 8), .ref (A 10), .int dBc])), ((A 8), .inr (7, [.int 12, .ref (A 9)])), ((A 9), .inl (cy 0, 720, .inl dN)), ((A 10), .inr (7, [.int 60, .ref (A 11)])), ((A 11), .inl (cy 0, 60, .inl dO)), ((A 12), .inr (3, [.ref (A 13), .int dCc])), ((A 13), .inr (7, [.int 5, .ref (A 14)])), ((A 14), .inl (cy 0, 40, .inl dC)), ((A 15), .inr (7, [.int 5, .ref (A 16)])), ((A 16), .inl (cy 0, 5, .inl dR))]) post := by
  refine Ctr.of (cc := cX4_fill) (maxL := 3) (ret := (some .int)) (lv0 := [(0, .ref (A 0)), (1, .int p0), (2, .int p1)]) (by decide) rfl (Nat.le_of_ble_eq_true rfl) rfl ?_
  intro X El hR Er Enm ED E En K
  have K : Cx X cX4_fill RX4 wsX4_fill (xTys cy) sd := K
  have E : X.2.2.2.2.2.2.2.2.2.2.1 = xMQ X (fun u : Int32 × XRow => some (.int u.1)) post (fun u => [((A 0), .inr (5, [.ref (A 1), .ref (A 3), .ref (A 5), .ref (A 7), .ref (A 12), .ref (A 15), .int dMc, .int dZ, .int dPc])), ((A 1), .inr (7, [.int 5, .ref (A 2)])), ((A 2), .inl (cy 0, 5, .inl dS)), ((A 3), .inr (7, [.int 7, .ref (A 4)])), ((A 4), .inl (cy 0, 42, .inl dM)), ((A 5), .inr (7, [.int 5, .ref (A 6)])), ((A 6), .inl (cy 0, 50, .inl u.2)), ((A 7), .inr (2, [.ref (A 8), .ref (A 10), .int dBc])), ((A 8), .inr (7, [.int 12, .ref (A 9)])), ((A 9), .inl (cy 0, 720, .inl dN)), ((A 10), .inr (7, [.int 60, .ref (A 11)])), ((A 11), .inl (cy 0, 60, .inl dO)), ((A 12), .inr (3, [.ref (A 13), .int dCc])), ((A 13), .inr (7, [.int 5, .ref (A 14)])), ((A 14), .inl (cy 0, 40, .inl dC)), ((A 15), .inr (7, [.int 5, .ref (A 16)])), ((A 16), .inl (cy 0, 5, .inl dR))]) 0 0 := E
  unfold wp_X4_fill at hw
  refine g_aload_n K 0 dX4_fill_0 rfl ?_
  refine g_get K (C := RX4) (T := TX4) (N := 9) 0 2 in_X4_fill_X4 (by decide +kernel) rfl rfl (by decide) rfl dX4_fill_1 ?_
  refine g_bipush (v := 6) K dX4_fill_4 rfl ?_
  refine g_iload_n K 1 dX4_fill_6 rfl ?_
  refine g_iload_n K 2 dX4_fill_7 rfl ?_
  refine g_callV (st' := fun u1 => []) (ws' := fun u1 => [((A 0), .inr (5, [.ref (A 1), .ref (A 3), .ref (A 5), .ref (A 7), .ref (A 12), .ref (A 15), .int dMc, .int dZ, .int dPc])), ((A 1), .inr (7, [.int 5, .ref (A 2)])), ((A 2), .inl (cy 0, 5, .inl dS)), ((A 3), .inr (7, [.int 7, .ref (A 4)])), ((A 4), .inl (cy 0, 42, .inl dM)), ((A 5), .inr (7, [.int 5, .ref (A 6)])), ((A 6), .inl (cy 0, 50, .inl u1)), ((A 7), .inr (2, [.ref (A 8), .ref (A 10), .int dBc])), ((A 8), .inr (7, [.int 12, .ref (A 9)])), ((A 9), .inl (cy 0, 720, .inl dN)), ((A 10), .inr (7, [.int 60, .ref (A 11)])), ((A 11), .inl (cy 0, 60, .inl dO)), ((A 12), .inr (3, [.ref (A 13), .int dCc])), ((A 13), .inr (7, [.int 5, .ref (A 14)])), ((A 14), .inl (cy 0, 40, .inl dC)), ((A 15), .inr (7, [.int 5, .ref (A 16)])), ((A 16), .inl (cy 0, 5, .inl dR))]) K hR [.int 6, .int p0, .int p1] [] 5 rfl rfl (c_X6_add X.2.1 (gxD X) cy sd (A 5) (A 6) 5 50 dP 6 p0 p1 hw) gX4_fill_X6_add rfl yok_X6_add rfl rfl (by decide) rfl (Nat.le_of_ble_eq_true rfl) dX4_fill_8 [5, 6] rfl (by decide) (fun _ => rfl) (fun _ => rfl) (fun _ => rfl) ⟨rfl, rfl⟩ (fun u1 hw => ?_)
  refine g_aload_n K 0 dX4_fill_11 rfl ?_
  refine g_get K (C := RX4) (T := TX4) (N := 9) 0 2 in_X4_fill_X4 (by decide +kernel) rfl rfl (by decide) rfl dX4_fill_12 ?_
  refine g_bipush (v := 8) K dX4_fill_15 rfl ?_
  refine g_iload_n K 1 dX4_fill_17 rfl ?_
  refine g_iload_n K 2 dX4_fill_18 rfl ?_
  refine g_callV (st' := fun u2 => []) (ws' := fun u2 => [((A 0), .inr (5, [.ref (A 1), .ref (A 3), .ref (A 5), .ref (A 7), .ref (A 12), .ref (A 15), .int dMc, .int dZ, .int dPc])), ((A 1), .inr (7, [.int 5, .ref (A 2)])), ((A 2), .inl (cy 0, 5, .inl dS)), ((A 3), .inr (7, [.int 7, .ref (A 4)])), ((A 4), .inl (cy 0, 42, .inl dM)), ((A 5), .inr (7, [.int 5, .ref (A 6)])), ((A 6), .inl (cy 0, 50, .inl u2)), ((A 7), .inr (2, [.ref (A 8), .ref (A 10), .int dBc])), ((A 8), .inr (7, [.int 12, .ref (A 9)])), ((A 9), .inl (cy 0, 720, .inl dN)), ((A 10), .inr (7, [.int 60, .ref (A 11)])), ((A 11), .inl (cy 0, 60, .inl dO)), ((A 12), .inr (3, [.ref (A 13), .int dCc])), ((A 13), .inr (7, [.int 5, .ref (A 14)])), ((A 14), .inl (cy 0, 40, .inl dC)), ((A 15), .inr (7, [.int 5, .ref (A 16)])), ((A 16), .inl (cy 0, 5, .inl dR))]) K hR [.int 8, .int p0, .int p1] [] 5 rfl rfl (c_X6_add X.2.1 (gxD X) cy sd (A 5) (A 6) 5 50 u1 8 p0 p1 hw) gX4_fill_X6_add rfl yok_X6_add rfl rfl (by decide) rfl (Nat.le_of_ble_eq_true rfl) dX4_fill_19 [5, 6] rfl (by decide) (fun _ => rfl) (fun _ => rfl) (fun _ => rfl) ⟨rfl, rfl⟩ (fun u2 hw => ?_)
  refine g_aload_n K 0 dX4_fill_22 rfl ?_
  refine g_get K (C := RX4) (T := TX4) (N := 9) 0 2 in_X4_fill_X4 (by decide +kernel) rfl rfl (by decide) rfl dX4_fill_23 ?_
  refine g_bipush (v := 6) K dX4_fill_26 rfl ?_
  refine g_iload_n K 1 dX4_fill_28 rfl ?_
  refine g_callVr (st' := fun u3 => [.int u3]) K hR [.int 6, .int p0] [] 5 rfl rfl (c_X6_get X.2.1 (gxD X) cy sd (A 5) (A 6) 5 50 u2 6 p0 hw) gX4_fill_X6_get rfl yok_X6_get rfl rfl (by decide) rfl (Nat.le_of_ble_eq_true rfl) dX4_fill_29 [5, 6] rfl (by decide) (fun _ => rfl) ⟨rfl, rfl⟩ (fun u3 hw => ?_)
  exact g_zret K E Er (u3, u2) hw rfl rfl rfl (Nat.le_refl _) (Nat.le_refl _) dX4_fill_32

def wp_X4_faultOfPasses (dMc : Int32) (p0 : Int32) (post : (Fin 4) → Prop) : Prop := wp_X8_isWithin p0 1 200 (fun u1 : Bool => (u1 = true → ((0 < dMc → (post (0 : Fin 4))) ∧ (¬ 0 < dMc → (post (3 : Fin 4))))) ∧ (u1 = false → (post (2 : Fin 4))))
theorem in_X4_faultOfPasses_X4 : ∀ w ∈ u_ws RX4 TX4 9, w ∈ wsX4_faultOfPasses := by decide +kernel
set_option maxRecDepth 100000 in
set_option maxHeartbeats 4000000 in
theorem c_X4_faultOfPasses (l : Launch) (D : va_G) (cy : Nat → ClassId) (sd : xSd) (A : Nat → Nat) (dS : XRow) (dM : XRow) (dP : XRow) (dN : XRow) (dBc : Int32) (dO : XRow) (dC : XRow) (dCc : Int32) (dR : XRow) (dMc : Int32) (dZ : Int32) (dPc : Int32) (p0 : Int32) {post : (Fin 4) → Prop} (hw : wp_X4_faultOfPasses dMc p0 post) : Ctr l D (xTys cy) sd yX4_faultOfPasses wsX4_faultOfPasses ({ frames := 1, cells := 0, slots := 0, locals := 22 } : Room) [.ref (A 0), .int p0] (fun u : Fin 4 => some (.ref (sd.1 (u).val))) [((A 0), .inr (5, [.ref (A 1), .ref (A 3), .ref (A 5), .ref (A 7), .ref (A 12), .ref (A 15), .int dMc, .int dZ, .int dPc])), ((A 1), .inr (7, [.int 5, .ref (A 2)])), ((A 2), .inl (cy 0, 5, .inl dS)), ((A 3), .inr (7, [.int 7, .ref (A 4)])), ((A 4), .inl (cy 0, 42, .inl dM)), ((A 5), .inr (7, [.int 5, .ref (A 6)])), ((A 6), .inl (cy 0, 50, .inl dP)), ((A 7), .inr (2, [.ref (A 8), .ref (A 10), .int dBc])), ((A 8), .inr (7, [.int 12, .ref (A 9)])), ((A 9), .inl (cy 0, 720, .inl dN)), ((A 10), .inr (7, [.int 60, .ref (A 11)])), ((A 11), .inl (cy 0, 60, .inl dO)), ((A 12), .inr (3, [.ref (A 13), .int dCc])), ((A 13), .inr (7, [.int 5, .ref (A 14)])), ((A 14), .inl (cy 0, 40, .inl dC)), ((A 15), .inr (7, [.int 5, .ref (A 16)])), ((A 16), .inl (cy 0, 5, .inl dR))] (fun _ => [((A 0), .inr (5, [.ref (A 1), .ref (A 3), .ref (A 5), .ref (A 7), .ref (A 12), .ref (A 15), .int dMc, .int dZ, .int dPc])), ((A 1), .inr (7, [.int 5, .ref (A 2)])), ((A 2), .inl (cy 0, 5, .inl dS)), ((A 3), .inr (7, [.int 7, .ref (A 4)])), ((A 4), .inl (cy 0, 42, .inl dM)), ((A 5), .inr (7, [.int 5, .ref (A 6)])), ((A 6), .inl (cy 0, 50, .inl dP)), ((A 7), .inr (2, [.ref (A 8), .ref (A 10), .int dBc])), ((A 8), .inr (7, [.int 12, .ref (A 9)])), ((A 9), .inl (cy 0, 720, .inl dN)), ((A 10), .inr (7, [.int 60, .ref (A 11)])), ((A 11), .inl (cy 0, 60, .inl dO)), ((A 12), .inr (3, [.ref (A 13), .int dCc])), ((A 13), .inr (7, [.int 5, .ref (A 14)])), ((A 14), .inl (cy 0, 40, .inl dC)), ((A 15), .inr (7, [.int 5, .ref (A 16)])), ((A 16), .inl (cy 0, 5, .inl dR))]) post := by
  refine Ctr.of (cc := cX4_faultOfPasses) (maxL := 2) (ret := (some (.object "RecyclingSorter$Fault"))) (lv0 := [(0, .ref (A 0)), (1, .int p0)]) (by decide) rfl (Nat.le_of_ble_eq_true rfl) rfl ?_
  intro X El hR Er Enm ED E En K
  have K : Cx X cX4_faultOfPasses RX4 wsX4_faultOfPasses (xTys cy) sd := K
  have E : X.2.2.2.2.2.2.2.2.2.2.1 = xMQ X (fun u : Fin 4 => some (.ref (sd.1 (u).val))) post (fun _ => [((A 0), .inr (5, [.ref (A 1), .ref (A 3), .ref (A 5), .ref (A 7), .ref (A 12), .ref (A 15), .int dMc, .int dZ, .int dPc])), ((A 1), .inr (7, [.int 5, .ref (A 2)])), ((A 2), .inl (cy 0, 5, .inl dS)), ((A 3), .inr (7, [.int 7, .ref (A 4)])), ((A 4), .inl (cy 0, 42, .inl dM)), ((A 5), .inr (7, [.int 5, .ref (A 6)])), ((A 6), .inl (cy 0, 50, .inl dP)), ((A 7), .inr (2, [.ref (A 8), .ref (A 10), .int dBc])), ((A 8), .inr (7, [.int 12, .ref (A 9)])), ((A 9), .inl (cy 0, 720, .inl dN)), ((A 10), .inr (7, [.int 60, .ref (A 11)])), ((A 11), .inl (cy 0, 60, .inl dO)), ((A 12), .inr (3, [.ref (A 13), .int dCc])), ((A 13), .inr (7, [.int 5, .ref (A 14)])), ((A 14), .inl (cy 0, 40, .inl dC)), ((A 15), .inr (7, [.int 5, .ref (A 16)])), ((A 16), .inl (cy 0, 5, .inl dR))]) 0 0 := E
  unfold wp_X4_faultOfPasses at hw
  refine g_iload_n K 1 dX4_faultOfPasses_0 rfl ?_
  refine g_iconst (v := 1) K dX4_faultOfPasses_1 rfl ?_
  refine g_sipush (v := 200) K dX4_faultOfPasses_2 rfl ?_
  refine g_callSNr (st' := fun u1 => [.int (bI u1)]) K hR [.int p0, .int 1, .int 200] [] RX8 (by decide +kernel) (by decide +kernel) (by decide +kernel) (c_X8_isWithin X.2.1 (gxD X) cy sd p0 1 200 hw) gX4_faultOfPasses_X8_isWithin_n97 rfl yok_X8_isWithin rfl (by decide) rfl (Nat.le_of_ble_eq_true rfl) dX4_faultOfPasses_5 [] rfl (by decide) (fun _ => rfl) ⟨rfl, rfl⟩ (fun u1 hw => ?_)
  refine g_ifb_ne (tgt := 15) K dX4_faultOfPasses_8 (by decide) (fun hc => ?_) (fun hc => ?_)
  · replace hw := hw.1 hc
    refine g_aload_n K 0 dX4_faultOfPasses_15 rfl ?_
    refine g_get K (C := RX4) (T := TX4) (N := 9) 0 6 in_X4_faultOfPasses_X4 (by decide +kernel) rfl rfl (by decide) rfl dX4_faultOfPasses_16 ?_
    refine g_if_gt (tgt := 28) K dX4_faultOfPasses_19 (by decide) (fun hc => ?_) (fun hc => ?_)
    · replace hw := hw.1 hc
      refine g_getsF K 0 (by decide) rfl (by decide +kernel) dX4_faultOfPasses_28 ?_
      exact g_aret K E Er (Or.inl ⟨_, rfl⟩) (0 : Fin 4) hw rfl (Or.inr ⟨_, rfl⟩) rfl (Nat.le_refl _) (Nat.le_refl _) dX4_faultOfPasses_31
    · replace hw := hw.2 hc
      refine g_getsF K 3 (by decide) rfl (by decide +kernel) dX4_faultOfPasses_22 ?_
      refine g_goto (tgt := 31) K dX4_faultOfPasses_25 (by decide) ?_
      exact g_aret K E Er (Or.inl ⟨_, rfl⟩) (3 : Fin 4) hw rfl (Or.inr ⟨_, rfl⟩) rfl (Nat.le_refl _) (Nat.le_refl _) dX4_faultOfPasses_31
  · replace hw := hw.2 hc
    refine g_getsF K 2 (by decide) rfl (by decide +kernel) dX4_faultOfPasses_11 ?_
    exact g_aret K E Er (Or.inl ⟨_, rfl⟩) (2 : Fin 4) hw rfl (Or.inr ⟨_, rfl⟩) rfl (Nat.le_refl _) (Nat.le_refl _) dX4_faultOfPasses_14

def wp_X4_takeShare_o5_L16 (p0 : Int32) (p1 : Int32) (p2 : Int32) (u1 : Int32) (k16_105 : Int32 → Int32 → XRow → XRow → Prop) : Nat → Int32 → Int32 → XRow → XRow → Prop
  | 0, _, _, _, _ => False
  | fu + 1, v2, v3, v4, v5 => (5 ≤ v2 → (k16_105 v2 v3 v4 v5)) ∧ (¬ 5 ≤ v2 → (wp_X6_get 5 50 v4 p0 v2 (fun u6 : Int32 => ∀ x7 : Int64, x7 = u6.toInt64 * p1.toInt64 → ((u1 ≤ 0 → ((u1 ≤ 0 → (wp_X6_put 5 5 v5 0 v2 0 (fun u8 : XRow => wp_X6_put 5 50 v4 p2 v2 0 (fun u9 : XRow => ∀ x10 : Int32, x10 = v3 - 0 → (∀ x11 : Int32, x11 = v2 + 1 → (wp_X4_takeShare_o5_L16 p0 p1 p2 u1 k16_105 fu x11 x10 u9 u8)))))) ∧ (¬ u1 ≤ 0 → ((¬ u1.toInt64 = 0) ∧ (wp_X6_put 5 5 v5 0 v2 ((x7 - x7 / u1.toInt64 * u1.toInt64).toInt32) (fun u12 : XRow => wp_X6_put 5 50 v4 p2 v2 0 (fun u13 : XRow => ∀ x14 : Int32, x14 = v3 - 0 → (∀ x15 : Int32, x15 = v2 + 1 → (wp_X4_takeShare_o5_L16 p0 p1 p2 u1 k16_105 fu x15 x14 u13 u12))))))))) ∧ (¬ u1 ≤ 0 → ((¬ u1.toInt64 = 0) ∧ (∀ x16 : Int32, x16 = (x7 / u1.toInt64).toInt32 → ((u1 ≤ 0 → (wp_X6_put 5 5 v5 0 v2 0 (fun u17 : XRow => wp_X6_put 5 50 v4 p2 v2 x16 (fun u18 : XRow => ∀ x19 : Int32, x19 = v3 - x16 → (∀ x20 : Int32, x20 = v2 + 1 → (wp_X4_takeShare_o5_L16 p0 p1 p2 u1 k16_105 fu x20 x19 u18 u17)))))) ∧ (¬ u1 ≤ 0 → ((¬ u1.toInt64 = 0) ∧ (wp_X6_put 5 5 v5 0 v2 ((x7 - x7 / u1.toInt64 * u1.toInt64).toInt32) (fun u21 : XRow => wp_X6_put 5 50 v4 p2 v2 x16 (fun u22 : XRow => ∀ x23 : Int32, x23 = v3 - x16 → (∀ x24 : Int32, x24 = v2 + 1 → (wp_X4_takeShare_o5_L16 p0 p1 p2 u1 k16_105 fu x24 x23 u22 u21)))))))))))))))
def wp_X4_takeShare_o5_L108 (p2 : Int32) (v26 : Int32) (k108_151 : Int32 → XRow → XRow → Prop) : Nat → Int32 → XRow → XRow → Prop
  | 0, _, _, _ => False
  | fu + 1, v29, v30, v31 => (v26 ≤ v29 → (k108_151 v29 v30 v31)) ∧ (¬ v26 ≤ v29 → (wp_X6_columnOfGreatest 5 5 v31 0 (fun u32 : Int32 => wp_X6_add 5 50 v30 p2 u32 1 (fun u33 : XRow => wp_X6_put 5 5 v31 0 u32 (-1) (fun u34 : XRow => ∀ x35 : Int32, x35 = v29 + 1 → (wp_X4_takeShare_o5_L108 p2 v26 k108_151 fu x35 u33 u34))))))
def wp_X4_takeShare_o5_L154 (p0 : Int32) (p2 : Int32) (k154_185 : Int32 → XRow → Prop) : Nat → Int32 → XRow → Prop
  | 0, _, _ => False
  | fu + 1, v39, v40 => (5 ≤ v39 → (k154_185 v39 v40)) ∧ (¬ 5 ≤ v39 → (wp_X6_get 5 50 v40 p2 v39 (fun u41 : Int32 => wp_X6_add 5 50 v40 p0 v39 (-u41) (fun u42 : XRow => ∀ x43 : Int32, x43 = v39 + 1 → (wp_X4_takeShare_o5_L154 p0 p2 k154_185 fu x43 u42)))))
def wp_X4_takeShare_o5 (dP : XRow) (dR : XRow) (p0 : Int32) (p1 : Int32) (p2 : Int32) (post : (XRow × XRow) → Prop) : Prop := wp_X6_sum 5 50 dP p0 (fun u1 : Int32 => ∃ fl, wp_X4_takeShare_o5_L16 p0 p1 p2 u1 (fun (v25 : Int32) (v26 : Int32) (v27 : XRow) (v28 : XRow) => ∃ fl, wp_X4_takeShare_o5_L108 p2 v26 (fun (v36 : Int32) (v37 : XRow) (v38 : XRow) => ∃ fl, wp_X4_takeShare_o5_L154 p0 p2 (fun (v44 : Int32) (v45 : XRow) => post (v45, v38)) fl 0 v37) fl 0 v27 v28) fl 0 p1 dP dR)
theorem in_X4_takeShare_o5_X4 : ∀ w ∈ u_ws RX4 TX4 9, w ∈ wsX4_takeShare := by decide +kernel
set_option maxRecDepth 100000 in
set_option maxHeartbeats 4000000 in
theorem c_X4_takeShare_o5 (l : Launch) (D : va_G) (cy : Nat → ClassId) (sd : xSd) (A : Nat → Nat) (dS : XRow) (dM : XRow) (dP : XRow) (dN : XRow) (dBc : Int32) (dO : XRow) (dC : XRow) (dCc : Int32) (dR : XRow) (dMc : Int32) (dZ : Int32) (dPc : Int32) (p0 : Int32) (p1 : Int32) (p2 : Int32) {post : (XRow × XRow) → Prop} (hw : wp_X4_takeShare_o5 dP dR p0 p1 p2 post) : Ctr l D (xTys cy) sd yX4_takeShare wsX4_takeShare ({ frames := 2, cells := 0, slots := 0, locals := 47 } : Room) [.ref (A 0), .int p0, .int p1, .ref (A 5), .int p2] (fun u : XRow × XRow => none) [((A 0), .inr (5, [.ref (A 1), .ref (A 3), .ref (A 5), .ref (A 7), .ref (A 12), .ref (A 15), .int dMc, .int dZ, .int dPc])), ((A 1), .inr (7, [.int 5, .ref (A 2)])), ((A 2), .inl (cy 0, 5, .inl dS)), ((A 3), .inr (7, [.int 7, .ref (A 4)])), ((A 4), .inl (cy 0, 42, .inl dM)), ((A 5), .inr (7, [.int 5, .ref (A 6)])), ((A 6), .inl (cy 0, 50, .inl dP)), ((A 7), .inr (2, [.ref (A 8), .ref (A 10), .int dBc])), ((A 8), .inr (7, [.int 12, .ref (A 9)])), ((A 9), .inl (cy 0, 720, .inl dN)), ((A 10), .inr (7, [.int 60, .ref (A 11)])), ((A 11), .inl (cy 0, 60, .inl dO)), ((A 12), .inr (3, [.ref (A 13), .int dCc])), ((A 13), .inr (7, [.int 5, .ref (A 14)])), ((A 14), .inl (cy 0, 40, .inl dC)), ((A 15), .inr (7, [.int 5, .ref (A 16)])), ((A 16), .inl (cy 0, 5, .inl dR))] (fun u => [((A 0), .inr (5, [.ref (A 1), .ref (A 3), .ref (A 5), .ref (A 7), .ref (A 12), .ref (A 15), .int dMc, .int dZ, .int dPc])), ((A 1), .inr (7, [.int 5, .ref (A 2)])), ((A 2), .inl (cy 0, 5, .inl dS)), ((A 3), .inr (7, [.int 7, .ref (A 4)])), ((A 4), .inl (cy 0, 42, .inl dM)), ((A 5), .inr (7, [.int 5, .ref (A 6)])), ((A 6), .inl (cy 0, 50, .inl u.1)), ((A 7), .inr (2, [.ref (A 8), .ref (A 10), .int dBc])), ((A 8), .inr (7, [.int 12, .ref (A 9)])), ((A 9), .inl (cy 0, 720, .inl dN)), ((A 10), .inr (7, [.int 60, .ref (A 11)])), ((A 11), .inl (cy 0, 60, .inl dO)), ((A 12), .inr (3, [.ref (A 13), .int dCc])), ((A 13), .inr (7, [.int 5, .ref (A 14)])), ((A 14), .inl (cy 0, 40, .inl dC)), ((A 15), .inr (7, [.int 5, .ref (A 16)])), ((A 16), .inl (cy 0, 5, .inl u.2))]) post := by
  refine Ctr.of (cc := cX4_takeShare) (maxL := 11) (ret := none) (lv0 := [(0, .ref (A 0)), (1, .int p0), (2, .int p1), (3, .ref (A 5)), (4, .int p2)]) (by decide) rfl (Nat.le_of_ble_eq_true rfl) rfl ?_
  intro X El hR Er Enm ED E En K
  have K : Cx X cX4_takeShare RX4 wsX4_takeShare (xTys cy) sd := K
  have E : X.2.2.2.2.2.2.2.2.2.2.1 = xMQ X (fun u : XRow × XRow => none) post (fun u => [((A 0), .inr (5, [.ref (A 1), .ref (A 3), .ref (A 5), .ref (A 7), .ref (A 12), .ref (A 15), .int dMc, .int dZ, .int dPc])), ((A 1), .inr (7, [.int 5, .ref (A 2)])), ((A 2), .inl (cy 0, 5, .inl dS)), ((A 3), .inr (7, [.int 7, .ref (A 4)])), ((A 4), .inl (cy 0, 42, .inl dM)), ((A 5), .inr (7, [.int 5, .ref (A 6)])), ((A 6), .inl (cy 0, 50, .inl u.1)), ((A 7), .inr (2, [.ref (A 8), .ref (A 10), .int dBc])), ((A 8), .inr (7, [.int 12, .ref (A 9)])), ((A 9), .inl (cy 0, 720, .inl dN)), ((A 10), .inr (7, [.int 60, .ref (A 11)])), ((A 11), .inl (cy 0, 60, .inl dO)), ((A 12), .inr (3, [.ref (A 13), .int dCc])), ((A 13), .inr (7, [.int 5, .ref (A 14)])), ((A 14), .inl (cy 0, 40, .inl dC)), ((A 15), .inr (7, [.int 5, .ref (A 16)])), ((A 16), .inl (cy 0, 5, .inl u.2))]) 0 0 := E
  unfold wp_X4_takeShare_o5 at hw
  refine g_aload_n K 0 dX4_takeShare_0 rfl ?_
  refine g_get K (C := RX4) (T := TX4) (N := 9) 0 2 in_X4_takeShare_o5_X4 (by decide +kernel) rfl rfl (by decide) rfl dX4_takeShare_1 ?_
  refine g_iload_n K 1 dX4_takeShare_4 rfl ?_
  refine g_callVr (st' := fun u1 => [.int u1]) K hR [.int p0] [] 5 rfl rfl (c_X6_sum X.2.1 (gxD X) cy sd (A 5) (A 6) 5 50 dP p0 hw) gX4_takeShare_X6_sum rfl yok_X6_sum rfl rfl (by decide) rfl (Nat.le_of_ble_eq_true rfl) dX4_takeShare_5 [5, 6] rfl (by decide) (fun _ => rfl) ⟨rfl, rfl⟩ (fun u1 hw => ?_)
  refine g_istore (lv' := [(5, .int u1), (0, .ref (A 0)), (1, .int p0), (2, .int p1), (3, .ref (A 5)), (4, .int p2)]) K dX4_takeShare_8 (by rw [En]; decide) rfl ?_
  refine g_iload_n K 3 dX4_takeShare_10 rfl ?_
  refine g_istore (lv' := [(6, .int p1), (5, .int u1), (0, .ref (A 0)), (1, .int p0), (2, .int p1), (3, .ref (A 5)), (4, .int p2)]) K dX4_takeShare_11 (by rw [En]; decide) rfl ?_
  refine g_iconst (v := 0) K dX4_takeShare_13 rfl ?_
  refine g_istore (lv' := [(7, .int 0), (6, .int p1), (5, .int u1), (0, .ref (A 0)), (1, .int p0), (2, .int p1), (3, .ref (A 5)), (4, .int p2)]) K dX4_takeShare_14 (by rw [En]; decide) rfl ?_
  obtain ⟨fl, hw⟩ := hw
  have key : ∀ (k16_105 : Int32 → Int32 → XRow → XRow → Prop), (∀ (v2 : Int32) (v3 : Int32) (v4 : XRow) (v5 : XRow), k16_105 v2 v3 v4 v5 → Gx X 0 0 [((A 0), .inr (5, [.ref (A 1), .ref (A 3), .ref (A 5), .ref (A 7), .ref (A 12), .ref (A 15), .int dMc, .int dZ, .int dPc])), ((A 1), .inr (7, [.int 5, .ref (A 2)])), ((A 2), .inl (cy 0, 5, .inl dS)), ((A 3), .inr (7, [.int 7, .ref (A 4)])), ((A 4), .inl (cy 0, 42, .inl dM)), ((A 5), .inr (7, [.int 5, .ref (A 6)])), ((A 6), .inl (cy 0, 50, .inl v4)), ((A 7), .inr (2, [.ref (A 8), .ref (A 10), .int dBc])), ((A 8), .inr (7, [.int 12, .ref (A 9)])), ((A 9), .inl (cy 0, 720, .inl dN)), ((A 10), .inr (7, [.int 60, .ref (A 11)])), ((A 11), .inl (cy 0, 60, .inl dO)), ((A 12), .inr (3, [.ref (A 13), .int dCc])), ((A 13), .inr (7, [.int 5, .ref (A 14)])), ((A 14), .inl (cy 0, 40, .inl dC)), ((A 15), .inr (7, [.int 5, .ref (A 16)])), ((A 16), .inl (cy 0, 5, .inl v5))] [(7, .int v2), (6, .int v3), (5, .int u1), (0, .ref (A 0)), (1, .int p0), (2, .int p1), (3, .ref (A 5)), (4, .int p2)] 105 []) → ∀ (n : Nat) (v2 : Int32) (v3 : Int32) (v4 : XRow) (v5 : XRow), wp_X4_takeShare_o5_L16 p0 p1 p2 u1 k16_105 n v2 v3 v4 v5 → Gx X 0 0 [((A 0), .inr (5, [.ref (A 1), .ref (A 3), .ref (A 5), .ref (A 7), .ref (A 12), .ref (A 15), .int dMc, .int dZ, .int dPc])), ((A 1), .inr (7, [.int 5, .ref (A 2)])), ((A 2), .inl (cy 0, 5, .inl dS)), ((A 3), .inr (7, [.int 7, .ref (A 4)])), ((A 4), .inl (cy 0, 42, .inl dM)), ((A 5), .inr (7, [.int 5, .ref (A 6)])), ((A 6), .inl (cy 0, 50, .inl v4)), ((A 7), .inr (2, [.ref (A 8), .ref (A 10), .int dBc])), ((A 8), .inr (7, [.int 12, .ref (A 9)])), ((A 9), .inl (cy 0, 720, .inl dN)), ((A 10), .inr (7, [.int 60, .ref (A 11)])), ((A 11), .inl (cy 0, 60, .inl dO)), ((A 12), .inr (3, [.ref (A 13), .int dCc])), ((A 13), .inr (7, [.int 5, .ref (A 14)])), ((A 14), .inl (cy 0, 40, .inl dC)), ((A 15), .inr (7, [.int 5, .ref (A 16)])), ((A 16), .inl (cy 0, 5, .inl v5))] [(7, .int v2), (6, .int v3), (5, .int u1), (0, .ref (A 0)), (1, .int p0), (2, .int p1), (3, .ref (A 5)), (4, .int p2)] 16 [] := by
    intro k16_105 hx105 n
    induction n with
    | zero => intro v2 v3 v4 v5 hw; exact hw.elim
    | succ n ih =>
      intro v2 v3 v4 v5 hw
      refine g_iload K 0 dX4_takeShare_16 rfl ?_
      refine g_iconst (v := 5) K dX4_takeShare_18 rfl ?_
      refine g_icmp_ge (tgt := 105) K dX4_takeShare_19 (by decide) (fun hc => ?_) (fun hc => ?_)
      · replace hw := hw.1 hc
        exact hx105 _ _ _ _ hw
      · replace hw := hw.2 hc
        refine g_aload_n K 3 dX4_takeShare_22 rfl ?_
        refine g_get K (C := RX4) (T := TX4) (N := 9) 0 2 in_X4_takeShare_o5_X4 (by decide +kernel) rfl rfl (by decide) rfl dX4_takeShare_23 ?_
        refine g_iload_n K 4 dX4_takeShare_26 rfl ?_
        refine g_iload K 0 dX4_takeShare_27 rfl ?_
        refine g_callVr (st' := fun u6 => [.int u6]) K hR [.int p0, .int v2] [] 5 rfl rfl (c_X6_get X.2.1 (gxD X) cy sd (A 5) (A 6) 5 50 v4 p0 v2 hw) gX4_takeShare_X6_get rfl yok_X6_get rfl rfl (by decide) rfl (Nat.le_of_ble_eq_true rfl) dX4_takeShare_29 [5, 6] rfl (by decide) (fun _ => rfl) ⟨rfl, rfl⟩ (fun u6 hw => ?_)
        refine g_i2l (v := u6.toInt64) K dX4_takeShare_32 rfl ?_
        refine g_iload_n K 5 dX4_takeShare_33 rfl ?_
        refine g_i2l (v := p1.toInt64) K dX4_takeShare_34 rfl ?_
        refine g_lmul K dX4_takeShare_35 ?_
        refine g_topl (fun x7 ex7 => ?_)
        replace hw := hw x7 ex7
        refine g_lstore (lv' := [(8, .long x7), (7, .int v2), (6, .int v3), (5, .int u1), (0, .ref (A 0)), (1, .int p0), (2, .int p1), (3, .ref (A 5)), (4, .int p2)]) K dX4_takeShare_36 (by rw [En]; decide) rfl ?_
        refine g_iload K 3 dX4_takeShare_38 rfl ?_
        refine g_if_le (tgt := 53) K dX4_takeShare_40 (by decide) (fun hc => ?_) (fun hc => ?_)
        · replace hw := hw.1 hc
          refine g_iconst (v := 0) K dX4_takeShare_53 rfl ?_
          refine g_istore (lv' := [(10, .int 0), (8, .long x7), (7, .int v2), (6, .int v3), (5, .int u1), (0, .ref (A 0)), (1, .int p0), (2, .int p1), (3, .ref (A 5)), (4, .int p2)]) K dX4_takeShare_54 (by rw [En]; decide) rfl ?_
          refine g_aload_n K 5 dX4_takeShare_56 rfl ?_
          refine g_get K (C := RX4) (T := TX4) (N := 9) 0 5 in_X4_takeShare_o5_X4 (by decide +kernel) rfl rfl (by decide) rfl dX4_takeShare_57 ?_
          refine g_iconst (v := 0) K dX4_takeShare_60 rfl ?_
          refine g_iload K 2 dX4_takeShare_61 rfl ?_
          refine g_iload K 4 dX4_takeShare_63 rfl ?_
          refine g_if_le (tgt := 78) K dX4_takeShare_65 (by decide) (fun hc => ?_) (fun hc => ?_)
          · replace hw := hw.1 hc
            refine g_iconst (v := 0) K dX4_takeShare_78 rfl ?_
            refine g_callV (st' := fun u8 => []) (ws' := fun u8 => [((A 0), .inr (5, [.ref (A 1), .ref (A 3), .ref (A 5), .ref (A 7), .ref (A 12), .ref (A 15), .int dMc, .int dZ, .int dPc])), ((A 1), .inr (7, [.int 5, .ref (A 2)])), ((A 2), .inl (cy 0, 5, .inl dS)), ((A 3), .inr (7, [.int 7, .ref (A 4)])), ((A 4), .inl (cy 0, 42, .inl dM)), ((A 5), .inr (7, [.int 5, .ref (A 6)])), ((A 6), .inl (cy 0, 50, .inl v4)), ((A 7), .inr (2, [.ref (A 8), .ref (A 10), .int dBc])), ((A 8), .inr (7, [.int 12, .ref (A 9)])), ((A 9), .inl (cy 0, 720, .inl dN)), ((A 10), .inr (7, [.int 60, .ref (A 11)])), ((A 11), .inl (cy 0, 60, .inl dO)), ((A 12), .inr (3, [.ref (A 13), .int dCc])), ((A 13), .inr (7, [.int 5, .ref (A 14)])), ((A 14), .inl (cy 0, 40, .inl dC)), ((A 15), .inr (7, [.int 5, .ref (A 16)])), ((A 16), .inl (cy 0, 5, .inl u8))]) K hR [.int 0, .int v2, .int 0] [] 15 rfl rfl (c_X6_put X.2.1 (gxD X) cy sd (A 15) (A 16) 5 5 v5 0 v2 0 hw) gX4_takeShare_X6_put rfl yok_X6_put rfl rfl (by decide) rfl (Nat.le_of_ble_eq_true rfl) dX4_takeShare_79 [15, 16] rfl (by decide) (fun _ => rfl) (fun _ => rfl) (fun _ => rfl) ⟨rfl, rfl⟩ (fun u8 hw => ?_)
            refine g_aload_n K 8 dX4_takeShare_82 rfl ?_
            refine g_iload K 9 dX4_takeShare_83 rfl ?_
            refine g_iload K 2 dX4_takeShare_85 rfl ?_
            refine g_iload K 0 dX4_takeShare_87 rfl ?_
            refine g_callV (st' := fun u9 => []) (ws' := fun u9 => [((A 0), .inr (5, [.ref (A 1), .ref (A 3), .ref (A 5), .ref (A 7), .ref (A 12), .ref (A 15), .int dMc, .int dZ, .int dPc])), ((A 1), .inr (7, [.int 5, .ref (A 2)])), ((A 2), .inl (cy 0, 5, .inl dS)), ((A 3), .inr (7, [.int 7, .ref (A 4)])), ((A 4), .inl (cy 0, 42, .inl dM)), ((A 5), .inr (7, [.int 5, .ref (A 6)])), ((A 6), .inl (cy 0, 50, .inl u9)), ((A 7), .inr (2, [.ref (A 8), .ref (A 10), .int dBc])), ((A 8), .inr (7, [.int 12, .ref (A 9)])), ((A 9), .inl (cy 0, 720, .inl dN)), ((A 10), .inr (7, [.int 60, .ref (A 11)])), ((A 11), .inl (cy 0, 60, .inl dO)), ((A 12), .inr (3, [.ref (A 13), .int dCc])), ((A 13), .inr (7, [.int 5, .ref (A 14)])), ((A 14), .inl (cy 0, 40, .inl dC)), ((A 15), .inr (7, [.int 5, .ref (A 16)])), ((A 16), .inl (cy 0, 5, .inl u8))]) K hR [.int p2, .int v2, .int 0] [] 5 rfl rfl (c_X6_put X.2.1 (gxD X) cy sd (A 5) (A 6) 5 50 v4 p2 v2 0 hw) gX4_takeShare_X6_put rfl yok_X6_put rfl rfl (by decide) rfl (Nat.le_of_ble_eq_true rfl) dX4_takeShare_89 [5, 6] rfl (by decide) (fun _ => rfl) (fun _ => rfl) (fun _ => rfl) ⟨rfl, rfl⟩ (fun u9 hw => ?_)
            refine g_iload K 3 dX4_takeShare_92 rfl ?_
            refine g_iload K 0 dX4_takeShare_94 rfl ?_
            refine g_isub K dX4_takeShare_96 ?_
            refine g_topi (fun x10 ex10 => ?_)
            replace hw := hw x10 ex10
            refine g_istore (lv' := [(6, .int x10), (10, .int 0), (8, .long x7), (7, .int v2), (5, .int u1), (0, .ref (A 0)), (1, .int p0), (2, .int p1), (3, .ref (A 5)), (4, .int p2)]) K dX4_takeShare_97 (by rw [En]; decide) rfl ?_
            obtain ⟨x11, ex11⟩ : ∃ z : Int32, z = v2 + 1 := ⟨_, rfl⟩
            replace hw := hw x11 ex11
            refine g_iinc (v := x11) (lv' := [(7, .int x11), (6, .int x10), (10, .int 0), (8, .long x7), (5, .int u1), (0, .ref (A 0)), (1, .int p0), (2, .int p1), (3, .ref (A 5)), (4, .int p2)]) K 3 dX4_takeShare_99 rfl (by rw [ex11]; rfl) (by rw [En]; decide) rfl ?_
            refine g_goto (tgt := 16) K dX4_takeShare_102 (by decide) ?_
            refine gx_locals [0, 1, 4, 5, 6, 7, 8, 9] rfl ?_
            exact ih _ _ _ _ hw
          · replace hw := hw.2 hc
            refine g_lload K 1 dX4_takeShare_68 rfl ?_
            refine g_iload K 4 dX4_takeShare_70 rfl ?_
            refine g_i2l (v := u1.toInt64) K dX4_takeShare_72 rfl ?_
            refine g_lrem K dX4_takeShare_73 hw.1 ?_
            replace hw := hw.2
            refine g_l2i (v := (x7 - x7 / u1.toInt64 * u1.toInt64).toInt32) K dX4_takeShare_74 rfl ?_
            refine g_goto (tgt := 79) K dX4_takeShare_75 (by decide) ?_
            refine g_callV (st' := fun u12 => []) (ws' := fun u12 => [((A 0), .inr (5, [.ref (A 1), .ref (A 3), .ref (A 5), .ref (A 7), .ref (A 12), .ref (A 15), .int dMc, .int dZ, .int dPc])), ((A 1), .inr (7, [.int 5, .ref (A 2)])), ((A 2), .inl (cy 0, 5, .inl dS)), ((A 3), .inr (7, [.int 7, .ref (A 4)])), ((A 4), .inl (cy 0, 42, .inl dM)), ((A 5), .inr (7, [.int 5, .ref (A 6)])), ((A 6), .inl (cy 0, 50, .inl v4)), ((A 7), .inr (2, [.ref (A 8), .ref (A 10), .int dBc])), ((A 8), .inr (7, [.int 12, .ref (A 9)])), ((A 9), .inl (cy 0, 720, .inl dN)), ((A 10), .inr (7, [.int 60, .ref (A 11)])), ((A 11), .inl (cy 0, 60, .inl dO)), ((A 12), .inr (3, [.ref (A 13), .int dCc])), ((A 13), .inr (7, [.int 5, .ref (A 14)])), ((A 14), .inl (cy 0, 40, .inl dC)), ((A 15), .inr (7, [.int 5, .ref (A 16)])), ((A 16), .inl (cy 0, 5, .inl u12))]) K hR [.int 0, .int v2, .int ((x7 - x7 / u1.toInt64 * u1.toInt64).toInt32)] [] 15 rfl rfl (c_X6_put X.2.1 (gxD X) cy sd (A 15) (A 16) 5 5 v5 0 v2 ((x7 - x7 / u1.toInt64 * u1.toInt64).toInt32) hw) gX4_takeShare_X6_put rfl yok_X6_put rfl rfl (by decide) rfl (Nat.le_of_ble_eq_true rfl) dX4_takeShare_79 [15, 16] rfl (by decide) (fun _ => rfl) (fun _ => rfl) (fun _ => rfl) ⟨rfl, rfl⟩ (fun u12 hw => ?_)
            refine g_aload_n K 8 dX4_takeShare_82 rfl ?_
            refine g_iload K 9 dX4_takeShare_83 rfl ?_
            refine g_iload K 2 dX4_takeShare_85 rfl ?_
            refine g_iload K 0 dX4_takeShare_87 rfl ?_
            refine g_callV (st' := fun u13 => []) (ws' := fun u13 => [((A 0), .inr (5, [.ref (A 1), .ref (A 3), .ref (A 5), .ref (A 7), .ref (A 12), .ref (A 15), .int dMc, .int dZ, .int dPc])), ((A 1), .inr (7, [.int 5, .ref (A 2)])), ((A 2), .inl (cy 0, 5, .inl dS)), ((A 3), .inr (7, [.int 7, .ref (A 4)])), ((A 4), .inl (cy 0, 42, .inl dM)), ((A 5), .inr (7, [.int 5, .ref (A 6)])), ((A 6), .inl (cy 0, 50, .inl u13)), ((A 7), .inr (2, [.ref (A 8), .ref (A 10), .int dBc])), ((A 8), .inr (7, [.int 12, .ref (A 9)])), ((A 9), .inl (cy 0, 720, .inl dN)), ((A 10), .inr (7, [.int 60, .ref (A 11)])), ((A 11), .inl (cy 0, 60, .inl dO)), ((A 12), .inr (3, [.ref (A 13), .int dCc])), ((A 13), .inr (7, [.int 5, .ref (A 14)])), ((A 14), .inl (cy 0, 40, .inl dC)), ((A 15), .inr (7, [.int 5, .ref (A 16)])), ((A 16), .inl (cy 0, 5, .inl u12))]) K hR [.int p2, .int v2, .int 0] [] 5 rfl rfl (c_X6_put X.2.1 (gxD X) cy sd (A 5) (A 6) 5 50 v4 p2 v2 0 hw) gX4_takeShare_X6_put rfl yok_X6_put rfl rfl (by decide) rfl (Nat.le_of_ble_eq_true rfl) dX4_takeShare_89 [5, 6] rfl (by decide) (fun _ => rfl) (fun _ => rfl) (fun _ => rfl) ⟨rfl, rfl⟩ (fun u13 hw => ?_)
            refine g_iload K 3 dX4_takeShare_92 rfl ?_
            refine g_iload K 0 dX4_takeShare_94 rfl ?_
            refine g_isub K dX4_takeShare_96 ?_
            refine g_topi (fun x14 ex14 => ?_)
            replace hw := hw x14 ex14
            refine g_istore (lv' := [(6, .int x14), (10, .int 0), (8, .long x7), (7, .int v2), (5, .int u1), (0, .ref (A 0)), (1, .int p0), (2, .int p1), (3, .ref (A 5)), (4, .int p2)]) K dX4_takeShare_97 (by rw [En]; decide) rfl ?_
            obtain ⟨x15, ex15⟩ : ∃ z : Int32, z = v2 + 1 := ⟨_, rfl⟩
            replace hw := hw x15 ex15
            refine g_iinc (v := x15) (lv' := [(7, .int x15), (6, .int x14), (10, .int 0), (8, .long x7), (5, .int u1), (0, .ref (A 0)), (1, .int p0), (2, .int p1), (3, .ref (A 5)), (4, .int p2)]) K 3 dX4_takeShare_99 rfl (by rw [ex15]; rfl) (by rw [En]; decide) rfl ?_
            refine g_goto (tgt := 16) K dX4_takeShare_102 (by decide) ?_
            refine gx_locals [0, 1, 4, 5, 6, 7, 8, 9] rfl ?_
            exact ih _ _ _ _ hw
        · replace hw := hw.2 hc
          refine g_lload K 0 dX4_takeShare_43 rfl ?_
          refine g_iload K 3 dX4_takeShare_45 rfl ?_
          refine g_i2l (v := u1.toInt64) K dX4_takeShare_47 rfl ?_
          refine g_ldiv K dX4_takeShare_48 hw.1 ?_
          replace hw := hw.2
          refine g_l2i (v := (x7 / u1.toInt64).toInt32) K dX4_takeShare_49 rfl ?_
          refine g_goto (tgt := 54) K dX4_takeShare_50 (by decide) ?_
          refine g_topi (fun x16 ex16 => ?_)
          replace hw := hw x16 ex16
          refine g_istore (lv' := [(10, .int x16), (8, .long x7), (7, .int v2), (6, .int v3), (5, .int u1), (0, .ref (A 0)), (1, .int p0), (2, .int p1), (3, .ref (A 5)), (4, .int p2)]) K dX4_takeShare_54 (by rw [En]; decide) rfl ?_
          refine g_aload_n K 5 dX4_takeShare_56 rfl ?_
          refine g_get K (C := RX4) (T := TX4) (N := 9) 0 5 in_X4_takeShare_o5_X4 (by decide +kernel) rfl rfl (by decide) rfl dX4_takeShare_57 ?_
          refine g_iconst (v := 0) K dX4_takeShare_60 rfl ?_
          refine g_iload K 2 dX4_takeShare_61 rfl ?_
          refine g_iload K 4 dX4_takeShare_63 rfl ?_
          refine g_if_le (tgt := 78) K dX4_takeShare_65 (by decide) (fun hc => ?_) (fun hc => ?_)
          · replace hw := hw.1 hc
            refine g_iconst (v := 0) K dX4_takeShare_78 rfl ?_
            refine g_callV (st' := fun u17 => []) (ws' := fun u17 => [((A 0), .inr (5, [.ref (A 1), .ref (A 3), .ref (A 5), .ref (A 7), .ref (A 12), .ref (A 15), .int dMc, .int dZ, .int dPc])), ((A 1), .inr (7, [.int 5, .ref (A 2)])), ((A 2), .inl (cy 0, 5, .inl dS)), ((A 3), .inr (7, [.int 7, .ref (A 4)])), ((A 4), .inl (cy 0, 42, .inl dM)), ((A 5), .inr (7, [.int 5, .ref (A 6)])), ((A 6), .inl (cy 0, 50, .inl v4)), ((A 7), .inr (2, [.ref (A 8), .ref (A 10), .int dBc])), ((A 8), .inr (7, [.int 12, .ref (A 9)])), ((A 9), .inl (cy 0, 720, .inl dN)), ((A 10), .inr (7, [.int 60, .ref (A 11)])), ((A 11), .inl (cy 0, 60, .inl dO)), ((A 12), .inr (3, [.ref (A 13), .int dCc])), ((A 13), .inr (7, [.int 5, .ref (A 14)])), ((A 14), .inl (cy 0, 40, .inl dC)), ((A 15), .inr (7, [.int 5, .ref (A 16)])), ((A 16), .inl (cy 0, 5, .inl u17))]) K hR [.int 0, .int v2, .int 0] [] 15 rfl rfl (c_X6_put X.2.1 (gxD X) cy sd (A 15) (A 16) 5 5 v5 0 v2 0 hw) gX4_takeShare_X6_put rfl yok_X6_put rfl rfl (by decide) rfl (Nat.le_of_ble_eq_true rfl) dX4_takeShare_79 [15, 16] rfl (by decide) (fun _ => rfl) (fun _ => rfl) (fun _ => rfl) ⟨rfl, rfl⟩ (fun u17 hw => ?_)
            refine g_aload_n K 8 dX4_takeShare_82 rfl ?_
            refine g_iload K 9 dX4_takeShare_83 rfl ?_
            refine g_iload K 2 dX4_takeShare_85 rfl ?_
            refine g_iload K 0 dX4_takeShare_87 rfl ?_
            refine g_callV (st' := fun u18 => []) (ws' := fun u18 => [((A 0), .inr (5, [.ref (A 1), .ref (A 3), .ref (A 5), .ref (A 7), .ref (A 12), .ref (A 15), .int dMc, .int dZ, .int dPc])), ((A 1), .inr (7, [.int 5, .ref (A 2)])), ((A 2), .inl (cy 0, 5, .inl dS)), ((A 3), .inr (7, [.int 7, .ref (A 4)])), ((A 4), .inl (cy 0, 42, .inl dM)), ((A 5), .inr (7, [.int 5, .ref (A 6)])), ((A 6), .inl (cy 0, 50, .inl u18)), ((A 7), .inr (2, [.ref (A 8), .ref (A 10), .int dBc])), ((A 8), .inr (7, [.int 12, .ref (A 9)])), ((A 9), .inl (cy 0, 720, .inl dN)), ((A 10), .inr (7, [.int 60, .ref (A 11)])), ((A 11), .inl (cy 0, 60, .inl dO)), ((A 12), .inr (3, [.ref (A 13), .int dCc])), ((A 13), .inr (7, [.int 5, .ref (A 14)])), ((A 14), .inl (cy 0, 40, .inl dC)), ((A 15), .inr (7, [.int 5, .ref (A 16)])), ((A 16), .inl (cy 0, 5, .inl u17))]) K hR [.int p2, .int v2, .int x16] [] 5 rfl rfl (c_X6_put X.2.1 (gxD X) cy sd (A 5) (A 6) 5 50 v4 p2 v2 x16 hw) gX4_takeShare_X6_put rfl yok_X6_put rfl rfl (by decide) rfl (Nat.le_of_ble_eq_true rfl) dX4_takeShare_89 [5, 6] rfl (by decide) (fun _ => rfl) (fun _ => rfl) (fun _ => rfl) ⟨rfl, rfl⟩ (fun u18 hw => ?_)
            refine g_iload K 3 dX4_takeShare_92 rfl ?_
            refine g_iload K 0 dX4_takeShare_94 rfl ?_
            refine g_isub K dX4_takeShare_96 ?_
            refine g_topi (fun x19 ex19 => ?_)
            replace hw := hw x19 ex19
            refine g_istore (lv' := [(6, .int x19), (10, .int x16), (8, .long x7), (7, .int v2), (5, .int u1), (0, .ref (A 0)), (1, .int p0), (2, .int p1), (3, .ref (A 5)), (4, .int p2)]) K dX4_takeShare_97 (by rw [En]; decide) rfl ?_
            obtain ⟨x20, ex20⟩ : ∃ z : Int32, z = v2 + 1 := ⟨_, rfl⟩
            replace hw := hw x20 ex20
            refine g_iinc (v := x20) (lv' := [(7, .int x20), (6, .int x19), (10, .int x16), (8, .long x7), (5, .int u1), (0, .ref (A 0)), (1, .int p0), (2, .int p1), (3, .ref (A 5)), (4, .int p2)]) K 3 dX4_takeShare_99 rfl (by rw [ex20]; rfl) (by rw [En]; decide) rfl ?_
            refine g_goto (tgt := 16) K dX4_takeShare_102 (by decide) ?_
            refine gx_locals [0, 1, 4, 5, 6, 7, 8, 9] rfl ?_
            exact ih _ _ _ _ hw
          · replace hw := hw.2 hc
            refine g_lload K 1 dX4_takeShare_68 rfl ?_
            refine g_iload K 4 dX4_takeShare_70 rfl ?_
            refine g_i2l (v := u1.toInt64) K dX4_takeShare_72 rfl ?_
            refine g_lrem K dX4_takeShare_73 hw.1 ?_
            replace hw := hw.2
            refine g_l2i (v := (x7 - x7 / u1.toInt64 * u1.toInt64).toInt32) K dX4_takeShare_74 rfl ?_
            refine g_goto (tgt := 79) K dX4_takeShare_75 (by decide) ?_
            refine g_callV (st' := fun u21 => []) (ws' := fun u21 => [((A 0), .inr (5, [.ref (A 1), .ref (A 3), .ref (A 5), .ref (A 7), .ref (A 12), .ref (A 15), .int dMc, .int dZ, .int dPc])), ((A 1), .inr (7, [.int 5, .ref (A 2)])), ((A 2), .inl (cy 0, 5, .inl dS)), ((A 3), .inr (7, [.int 7, .ref (A 4)])), ((A 4), .inl (cy 0, 42, .inl dM)), ((A 5), .inr (7, [.int 5, .ref (A 6)])), ((A 6), .inl (cy 0, 50, .inl v4)), ((A 7), .inr (2, [.ref (A 8), .ref (A 10), .int dBc])), ((A 8), .inr (7, [.int 12, .ref (A 9)])), ((A 9), .inl (cy 0, 720, .inl dN)), ((A 10), .inr (7, [.int 60, .ref (A 11)])), ((A 11), .inl (cy 0, 60, .inl dO)), ((A 12), .inr (3, [.ref (A 13), .int dCc])), ((A 13), .inr (7, [.int 5, .ref (A 14)])), ((A 14), .inl (cy 0, 40, .inl dC)), ((A 15), .inr (7, [.int 5, .ref (A 16)])), ((A 16), .inl (cy 0, 5, .inl u21))]) K hR [.int 0, .int v2, .int ((x7 - x7 / u1.toInt64 * u1.toInt64).toInt32)] [] 15 rfl rfl (c_X6_put X.2.1 (gxD X) cy sd (A 15) (A 16) 5 5 v5 0 v2 ((x7 - x7 / u1.toInt64 * u1.toInt64).toInt32) hw) gX4_takeShare_X6_put rfl yok_X6_put rfl rfl (by decide) rfl (Nat.le_of_ble_eq_true rfl) dX4_takeShare_79 [15, 16] rfl (by decide) (fun _ => rfl) (fun _ => rfl) (fun _ => rfl) ⟨rfl, rfl⟩ (fun u21 hw => ?_)
            refine g_aload_n K 8 dX4_takeShare_82 rfl ?_
            refine g_iload K 9 dX4_takeShare_83 rfl ?_
            refine g_iload K 2 dX4_takeShare_85 rfl ?_
            refine g_iload K 0 dX4_takeShare_87 rfl ?_
            refine g_callV (st' := fun u22 => []) (ws' := fun u22 => [((A 0), .inr (5, [.ref (A 1), .ref (A 3), .ref (A 5), .ref (A 7), .ref (A 12), .ref (A 15), .int dMc, .int dZ, .int dPc])), ((A 1), .inr (7, [.int 5, .ref (A 2)])), ((A 2), .inl (cy 0, 5, .inl dS)), ((A 3), .inr (7, [.int 7, .ref (A 4)])), ((A 4), .inl (cy 0, 42, .inl dM)), ((A 5), .inr (7, [.int 5, .ref (A 6)])), ((A 6), .inl (cy 0, 50, .inl u22)), ((A 7), .inr (2, [.ref (A 8), .ref (A 10), .int dBc])), ((A 8), .inr (7, [.int 12, .ref (A 9)])), ((A 9), .inl (cy 0, 720, .inl dN)), ((A 10), .inr (7, [.int 60, .ref (A 11)])), ((A 11), .inl (cy 0, 60, .inl dO)), ((A 12), .inr (3, [.ref (A 13), .int dCc])), ((A 13), .inr (7, [.int 5, .ref (A 14)])), ((A 14), .inl (cy 0, 40, .inl dC)), ((A 15), .inr (7, [.int 5, .ref (A 16)])), ((A 16), .inl (cy 0, 5, .inl u21))]) K hR [.int p2, .int v2, .int x16] [] 5 rfl rfl (c_X6_put X.2.1 (gxD X) cy sd (A 5) (A 6) 5 50 v4 p2 v2 x16 hw) gX4_takeShare_X6_put rfl yok_X6_put rfl rfl (by decide) rfl (Nat.le_of_ble_eq_true rfl) dX4_takeShare_89 [5, 6] rfl (by decide) (fun _ => rfl) (fun _ => rfl) (fun _ => rfl) ⟨rfl, rfl⟩ (fun u22 hw => ?_)
            refine g_iload K 3 dX4_takeShare_92 rfl ?_
            refine g_iload K 0 dX4_takeShare_94 rfl ?_
            refine g_isub K dX4_takeShare_96 ?_
            refine g_topi (fun x23 ex23 => ?_)
            replace hw := hw x23 ex23
            refine g_istore (lv' := [(6, .int x23), (10, .int x16), (8, .long x7), (7, .int v2), (5, .int u1), (0, .ref (A 0)), (1, .int p0), (2, .int p1), (3, .ref (A 5)), (4, .int p2)]) K dX4_takeShare_97 (by rw [En]; decide) rfl ?_
            obtain ⟨x24, ex24⟩ : ∃ z : Int32, z = v2 + 1 := ⟨_, rfl⟩
            replace hw := hw x24 ex24
            refine g_iinc (v := x24) (lv' := [(7, .int x24), (6, .int x23), (10, .int x16), (8, .long x7), (5, .int u1), (0, .ref (A 0)), (1, .int p0), (2, .int p1), (3, .ref (A 5)), (4, .int p2)]) K 3 dX4_takeShare_99 rfl (by rw [ex24]; rfl) (by rw [En]; decide) rfl ?_
            refine g_goto (tgt := 16) K dX4_takeShare_102 (by decide) ?_
            refine gx_locals [0, 1, 4, 5, 6, 7, 8, 9] rfl ?_
            exact ih _ _ _ _ hw
  refine key _ (fun v25 v26 v27 v28 hw => ?_) fl _ _ _ _ hw
  refine g_iconst (v := 0) K dX4_takeShare_105 rfl ?_
  refine g_istore (lv' := [(7, .int 0), (6, .int v26), (5, .int u1), (0, .ref (A 0)), (1, .int p0), (2, .int p1), (3, .ref (A 5)), (4, .int p2)]) K dX4_takeShare_106 (by rw [En]; decide) rfl ?_
  obtain ⟨fl, hw⟩ := hw
  have key : ∀ (k108_151 : Int32 → XRow → XRow → Prop), (∀ (v29 : Int32) (v30 : XRow) (v31 : XRow), k108_151 v29 v30 v31 → Gx X 0 0 [((A 0), .inr (5, [.ref (A 1), .ref (A 3), .ref (A 5), .ref (A 7), .ref (A 12), .ref (A 15), .int dMc, .int dZ, .int dPc])), ((A 1), .inr (7, [.int 5, .ref (A 2)])), ((A 2), .inl (cy 0, 5, .inl dS)), ((A 3), .inr (7, [.int 7, .ref (A 4)])), ((A 4), .inl (cy 0, 42, .inl dM)), ((A 5), .inr (7, [.int 5, .ref (A 6)])), ((A 6), .inl (cy 0, 50, .inl v30)), ((A 7), .inr (2, [.ref (A 8), .ref (A 10), .int dBc])), ((A 8), .inr (7, [.int 12, .ref (A 9)])), ((A 9), .inl (cy 0, 720, .inl dN)), ((A 10), .inr (7, [.int 60, .ref (A 11)])), ((A 11), .inl (cy 0, 60, .inl dO)), ((A 12), .inr (3, [.ref (A 13), .int dCc])), ((A 13), .inr (7, [.int 5, .ref (A 14)])), ((A 14), .inl (cy 0, 40, .inl dC)), ((A 15), .inr (7, [.int 5, .ref (A 16)])), ((A 16), .inl (cy 0, 5, .inl v31))] [(7, .int v29), (6, .int v26), (5, .int u1), (0, .ref (A 0)), (1, .int p0), (2, .int p1), (3, .ref (A 5)), (4, .int p2)] 151 []) → ∀ (n : Nat) (v29 : Int32) (v30 : XRow) (v31 : XRow), wp_X4_takeShare_o5_L108 p2 v26 k108_151 n v29 v30 v31 → Gx X 0 0 [((A 0), .inr (5, [.ref (A 1), .ref (A 3), .ref (A 5), .ref (A 7), .ref (A 12), .ref (A 15), .int dMc, .int dZ, .int dPc])), ((A 1), .inr (7, [.int 5, .ref (A 2)])), ((A 2), .inl (cy 0, 5, .inl dS)), ((A 3), .inr (7, [.int 7, .ref (A 4)])), ((A 4), .inl (cy 0, 42, .inl dM)), ((A 5), .inr (7, [.int 5, .ref (A 6)])), ((A 6), .inl (cy 0, 50, .inl v30)), ((A 7), .inr (2, [.ref (A 8), .ref (A 10), .int dBc])), ((A 8), .inr (7, [.int 12, .ref (A 9)])), ((A 9), .inl (cy 0, 720, .inl dN)), ((A 10), .inr (7, [.int 60, .ref (A 11)])), ((A 11), .inl (cy 0, 60, .inl dO)), ((A 12), .inr (3, [.ref (A 13), .int dCc])), ((A 13), .inr (7, [.int 5, .ref (A 14)])), ((A 14), .inl (cy 0, 40, .inl dC)), ((A 15), .inr (7, [.int 5, .ref (A 16)])), ((A 16), .inl (cy 0, 5, .inl v31))] [(7, .int v29), (6, .int v26), (5, .int u1), (0, .ref (A 0)), (1, .int p0), (2, .int p1), (3, .ref (A 5)), (4, .int p2)] 108 [] := by
    intro k108_151 hx151 n
    induction n with
    | zero => intro v29 v30 v31 hw; exact hw.elim
    | succ n ih =>
      intro v29 v30 v31 hw
      refine g_iload K 0 dX4_takeShare_108 rfl ?_
      refine g_iload K 1 dX4_takeShare_110 rfl ?_
      refine g_icmp_ge (tgt := 151) K dX4_takeShare_112 (by decide) (fun hc => ?_) (fun hc => ?_)
      · replace hw := hw.1 hc
        exact hx151 _ _ _ hw
      · replace hw := hw.2 hc
        refine g_aload_n K 3 dX4_takeShare_115 rfl ?_
        refine g_get K (C := RX4) (T := TX4) (N := 9) 0 5 in_X4_takeShare_o5_X4 (by decide +kernel) rfl rfl (by decide) rfl dX4_takeShare_116 ?_
        refine g_iconst (v := 0) K dX4_takeShare_119 rfl ?_
        refine g_callVr (st' := fun u32 => [.int u32]) K hR [.int 0] [] 15 rfl rfl (c_X6_columnOfGreatest X.2.1 (gxD X) cy sd (A 15) (A 16) 5 5 v31 0 hw) gX4_takeShare_X6_columnOfGreatest rfl yok_X6_columnOfGreatest rfl rfl (by decide) rfl (Nat.le_of_ble_eq_true rfl) dX4_takeShare_120 [15, 16] rfl (by decide) (fun _ => rfl) ⟨rfl, rfl⟩ (fun u32 hw => ?_)
        refine g_istore (lv' := [(8, .int u32), (7, .int v29), (6, .int v26), (5, .int u1), (0, .ref (A 0)), (1, .int p0), (2, .int p1), (3, .ref (A 5)), (4, .int p2)]) K dX4_takeShare_123 (by rw [En]; decide) rfl ?_
        refine g_aload_n K 7 dX4_takeShare_125 rfl ?_
        refine g_iload K 8 dX4_takeShare_126 rfl ?_
        refine g_iload K 0 dX4_takeShare_128 rfl ?_
        refine g_iconst (v := 1) K dX4_takeShare_130 rfl ?_
        refine g_callV (st' := fun u33 => []) (ws' := fun u33 => [((A 0), .inr (5, [.ref (A 1), .ref (A 3), .ref (A 5), .ref (A 7), .ref (A 12), .ref (A 15), .int dMc, .int dZ, .int dPc])), ((A 1), .inr (7, [.int 5, .ref (A 2)])), ((A 2), .inl (cy 0, 5, .inl dS)), ((A 3), .inr (7, [.int 7, .ref (A 4)])), ((A 4), .inl (cy 0, 42, .inl dM)), ((A 5), .inr (7, [.int 5, .ref (A 6)])), ((A 6), .inl (cy 0, 50, .inl u33)), ((A 7), .inr (2, [.ref (A 8), .ref (A 10), .int dBc])), ((A 8), .inr (7, [.int 12, .ref (A 9)])), ((A 9), .inl (cy 0, 720, .inl dN)), ((A 10), .inr (7, [.int 60, .ref (A 11)])), ((A 11), .inl (cy 0, 60, .inl dO)), ((A 12), .inr (3, [.ref (A 13), .int dCc])), ((A 13), .inr (7, [.int 5, .ref (A 14)])), ((A 14), .inl (cy 0, 40, .inl dC)), ((A 15), .inr (7, [.int 5, .ref (A 16)])), ((A 16), .inl (cy 0, 5, .inl v31))]) K hR [.int p2, .int u32, .int 1] [] 5 rfl rfl (c_X6_add X.2.1 (gxD X) cy sd (A 5) (A 6) 5 50 v30 p2 u32 1 hw) gX4_takeShare_X6_add rfl yok_X6_add rfl rfl (by decide) rfl (Nat.le_of_ble_eq_true rfl) dX4_takeShare_131 [5, 6] rfl (by decide) (fun _ => rfl) (fun _ => rfl) (fun _ => rfl) ⟨rfl, rfl⟩ (fun u33 hw => ?_)
        refine g_aload_n K 4 dX4_takeShare_134 rfl ?_
        refine g_get K (C := RX4) (T := TX4) (N := 9) 0 5 in_X4_takeShare_o5_X4 (by decide +kernel) rfl rfl (by decide) rfl dX4_takeShare_135 ?_
        refine g_iconst (v := 0) K dX4_takeShare_138 rfl ?_
        refine g_iload K 0 dX4_takeShare_139 rfl ?_
        refine g_iconst (v := (-1)) K dX4_takeShare_141 rfl ?_
        refine g_callV (st' := fun u34 => []) (ws' := fun u34 => [((A 0), .inr (5, [.ref (A 1), .ref (A 3), .ref (A 5), .ref (A 7), .ref (A 12), .ref (A 15), .int dMc, .int dZ, .int dPc])), ((A 1), .inr (7, [.int 5, .ref (A 2)])), ((A 2), .inl (cy 0, 5, .inl dS)), ((A 3), .inr (7, [.int 7, .ref (A 4)])), ((A 4), .inl (cy 0, 42, .inl dM)), ((A 5), .inr (7, [.int 5, .ref (A 6)])), ((A 6), .inl (cy 0, 50, .inl u33)), ((A 7), .inr (2, [.ref (A 8), .ref (A 10), .int dBc])), ((A 8), .inr (7, [.int 12, .ref (A 9)])), ((A 9), .inl (cy 0, 720, .inl dN)), ((A 10), .inr (7, [.int 60, .ref (A 11)])), ((A 11), .inl (cy 0, 60, .inl dO)), ((A 12), .inr (3, [.ref (A 13), .int dCc])), ((A 13), .inr (7, [.int 5, .ref (A 14)])), ((A 14), .inl (cy 0, 40, .inl dC)), ((A 15), .inr (7, [.int 5, .ref (A 16)])), ((A 16), .inl (cy 0, 5, .inl u34))]) K hR [.int 0, .int u32, .int (-1)] [] 15 rfl rfl (c_X6_put X.2.1 (gxD X) cy sd (A 15) (A 16) 5 5 v31 0 u32 (-1) hw) gX4_takeShare_X6_put rfl yok_X6_put rfl rfl (by decide) rfl (Nat.le_of_ble_eq_true rfl) dX4_takeShare_142 [15, 16] rfl (by decide) (fun _ => rfl) (fun _ => rfl) (fun _ => rfl) ⟨rfl, rfl⟩ (fun u34 hw => ?_)
        obtain ⟨x35, ex35⟩ : ∃ z : Int32, z = v29 + 1 := ⟨_, rfl⟩
        replace hw := hw x35 ex35
        refine g_iinc (v := x35) (lv' := [(7, .int x35), (8, .int u32), (6, .int v26), (5, .int u1), (0, .ref (A 0)), (1, .int p0), (2, .int p1), (3, .ref (A 5)), (4, .int p2)]) K 1 dX4_takeShare_145 rfl (by rw [ex35]; rfl) (by rw [En]; decide) rfl ?_
        refine g_goto (tgt := 108) K dX4_takeShare_148 (by decide) ?_
        refine gx_locals [0, 2, 3, 4, 5, 6, 7, 8] rfl ?_
        exact ih _ _ _ hw
  refine key _ (fun v36 v37 v38 hw => ?_) fl _ _ _ hw
  refine g_iconst (v := 0) K dX4_takeShare_151 rfl ?_
  refine g_istore (lv' := [(7, .int 0), (6, .int v26), (5, .int u1), (0, .ref (A 0)), (1, .int p0), (2, .int p1), (3, .ref (A 5)), (4, .int p2)]) K dX4_takeShare_152 (by rw [En]; decide) rfl ?_
  obtain ⟨fl, hw⟩ := hw
  have key : ∀ (k154_185 : Int32 → XRow → Prop), (∀ (v39 : Int32) (v40 : XRow), k154_185 v39 v40 → Gx X 0 0 [((A 0), .inr (5, [.ref (A 1), .ref (A 3), .ref (A 5), .ref (A 7), .ref (A 12), .ref (A 15), .int dMc, .int dZ, .int dPc])), ((A 1), .inr (7, [.int 5, .ref (A 2)])), ((A 2), .inl (cy 0, 5, .inl dS)), ((A 3), .inr (7, [.int 7, .ref (A 4)])), ((A 4), .inl (cy 0, 42, .inl dM)), ((A 5), .inr (7, [.int 5, .ref (A 6)])), ((A 6), .inl (cy 0, 50, .inl v40)), ((A 7), .inr (2, [.ref (A 8), .ref (A 10), .int dBc])), ((A 8), .inr (7, [.int 12, .ref (A 9)])), ((A 9), .inl (cy 0, 720, .inl dN)), ((A 10), .inr (7, [.int 60, .ref (A 11)])), ((A 11), .inl (cy 0, 60, .inl dO)), ((A 12), .inr (3, [.ref (A 13), .int dCc])), ((A 13), .inr (7, [.int 5, .ref (A 14)])), ((A 14), .inl (cy 0, 40, .inl dC)), ((A 15), .inr (7, [.int 5, .ref (A 16)])), ((A 16), .inl (cy 0, 5, .inl v38))] [(7, .int v39), (6, .int v26), (5, .int u1), (0, .ref (A 0)), (1, .int p0), (2, .int p1), (3, .ref (A 5)), (4, .int p2)] 185 []) → ∀ (n : Nat) (v39 : Int32) (v40 : XRow), wp_X4_takeShare_o5_L154 p0 p2 k154_185 n v39 v40 → Gx X 0 0 [((A 0), .inr (5, [.ref (A 1), .ref (A 3), .ref (A 5), .ref (A 7), .ref (A 12), .ref (A 15), .int dMc, .int dZ, .int dPc])), ((A 1), .inr (7, [.int 5, .ref (A 2)])), ((A 2), .inl (cy 0, 5, .inl dS)), ((A 3), .inr (7, [.int 7, .ref (A 4)])), ((A 4), .inl (cy 0, 42, .inl dM)), ((A 5), .inr (7, [.int 5, .ref (A 6)])), ((A 6), .inl (cy 0, 50, .inl v40)), ((A 7), .inr (2, [.ref (A 8), .ref (A 10), .int dBc])), ((A 8), .inr (7, [.int 12, .ref (A 9)])), ((A 9), .inl (cy 0, 720, .inl dN)), ((A 10), .inr (7, [.int 60, .ref (A 11)])), ((A 11), .inl (cy 0, 60, .inl dO)), ((A 12), .inr (3, [.ref (A 13), .int dCc])), ((A 13), .inr (7, [.int 5, .ref (A 14)])), ((A 14), .inl (cy 0, 40, .inl dC)), ((A 15), .inr (7, [.int 5, .ref (A 16)])), ((A 16), .inl (cy 0, 5, .inl v38))] [(7, .int v39), (6, .int v26), (5, .int u1), (0, .ref (A 0)), (1, .int p0), (2, .int p1), (3, .ref (A 5)), (4, .int p2)] 154 [] := by
    intro k154_185 hx185 n
    induction n with
    | zero => intro v39 v40 hw; exact hw.elim
    | succ n ih =>
      intro v39 v40 hw
      refine g_iload K 0 dX4_takeShare_154 rfl ?_
      refine g_iconst (v := 5) K dX4_takeShare_156 rfl ?_
      refine g_icmp_ge (tgt := 185) K dX4_takeShare_157 (by decide) (fun hc => ?_) (fun hc => ?_)
      · replace hw := hw.1 hc
        exact hx185 _ _ hw
      · replace hw := hw.2 hc
        refine g_aload_n K 3 dX4_takeShare_160 rfl ?_
        refine g_get K (C := RX4) (T := TX4) (N := 9) 0 2 in_X4_takeShare_o5_X4 (by decide +kernel) rfl rfl (by decide) rfl dX4_takeShare_161 ?_
        refine g_iload_n K 4 dX4_takeShare_164 rfl ?_
        refine g_iload K 0 dX4_takeShare_165 rfl ?_
        refine g_aload_n K 6 dX4_takeShare_167 rfl ?_
        refine g_iload K 7 dX4_takeShare_168 rfl ?_
        refine g_iload K 0 dX4_takeShare_170 rfl ?_
        refine g_callVr (st' := fun u41 => [.int u41, .int v39, .int p0, .ref (A 5)]) K hR [.int p2, .int v39] [.int v39, .int p0, .ref (A 5)] 5 rfl rfl (c_X6_get X.2.1 (gxD X) cy sd (A 5) (A 6) 5 50 v40 p2 v39 hw) gX4_takeShare_X6_get rfl yok_X6_get rfl rfl (by decide) rfl (Nat.le_of_ble_eq_true rfl) dX4_takeShare_172 [5, 6] rfl (by decide) (fun _ => rfl) ⟨rfl, rfl⟩ (fun u41 hw => ?_)
        refine g_ineg K dX4_takeShare_175 ?_
        refine g_callV (st' := fun u42 => []) (ws' := fun u42 => [((A 0), .inr (5, [.ref (A 1), .ref (A 3), .ref (A 5), .ref (A 7), .ref (A 12), .ref (A 15), .int dMc, .int dZ, .int dPc])), ((A 1), .inr (7, [.int 5, .ref (A 2)])), ((A 2), .inl (cy 0, 5, .inl dS)), ((A 3), .inr (7, [.int 7, .ref (A 4)])), ((A 4), .inl (cy 0, 42, .inl dM)), ((A 5), .inr (7, [.int 5, .ref (A 6)])), ((A 6), .inl (cy 0, 50, .inl u42)), ((A 7), .inr (2, [.ref (A 8), .ref (A 10), .int dBc])), ((A 8), .inr (7, [.int 12, .ref (A 9)])), ((A 9), .inl (cy 0, 720, .inl dN)), ((A 10), .inr (7, [.int 60, .ref (A 11)])), ((A 11), .inl (cy 0, 60, .inl dO)), ((A 12), .inr (3, [.ref (A 13), .int dCc])), ((A 13), .inr (7, [.int 5, .ref (A 14)])), ((A 14), .inl (cy 0, 40, .inl dC)), ((A 15), .inr (7, [.int 5, .ref (A 16)])), ((A 16), .inl (cy 0, 5, .inl v38))]) K hR [.int p0, .int v39, .int (-u41)] [] 5 rfl rfl (c_X6_add X.2.1 (gxD X) cy sd (A 5) (A 6) 5 50 v40 p0 v39 (-u41) hw) gX4_takeShare_X6_add rfl yok_X6_add rfl rfl (by decide) rfl (Nat.le_of_ble_eq_true rfl) dX4_takeShare_176 [5, 6] rfl (by decide) (fun _ => rfl) (fun _ => rfl) (fun _ => rfl) ⟨rfl, rfl⟩ (fun u42 hw => ?_)
        obtain ⟨x43, ex43⟩ : ∃ z : Int32, z = v39 + 1 := ⟨_, rfl⟩
        replace hw := hw x43 ex43
        refine g_iinc (v := x43) (lv' := [(7, .int x43), (6, .int v26), (5, .int u1), (0, .ref (A 0)), (1, .int p0), (2, .int p1), (3, .ref (A 5)), (4, .int p2)]) K 0 dX4_takeShare_179 rfl (by rw [ex43]; rfl) (by rw [En]; decide) rfl ?_
        refine g_goto (tgt := 154) K dX4_takeShare_182 (by decide) ?_
        exact ih _ _ hw
  refine key _ (fun v44 v45 hw => ?_) fl _ _ hw
  exact g_vret K E Er (v45, v38) hw rfl rfl (Nat.le_refl _) (Nat.le_refl _) dX4_takeShare_185

def wp_X4_sortOut_L26 (dM : XRow) (p0 : Int32) (u1 : Int32) (u2 : Int32) (k26_97 : Int32 → Int32 → XRow → Prop) : Nat → Int32 → Int32 → XRow → Prop
  | 0, _, _, _ => False
  | fu + 1, v3, v4, v5 => (5 ≤ v3 → (k26_97 v3 v4 v5)) ∧ (¬ 5 ≤ v3 → ((v3 = u2 → (wp_X4_rateOf dM p0 u1 false (fun u6 : Int32 => wp_X6_get 5 50 v5 9 v3 (fun u7 : Int32 => ∀ x8 : Int32, x8 = (u7 * u6) / 100 → (wp_X6_move 5 50 v5 9 p0 v3 x8 (fun u9 : XRow => ∀ x10 : Int32, x10 = v4 + x8 → (∀ x11 : Int32, x11 = v3 + 1 → (wp_X4_sortOut_L26 dM p0 u1 u2 k26_97 fu x11 x10 u9)))))))) ∧ (¬ v3 = u2 → (wp_X4_rateOf dM p0 u1 true (fun u12 : Int32 => wp_X6_get 5 50 v5 9 v3 (fun u13 : Int32 => ∀ x14 : Int32, x14 = (u13 * u12) / 100 → (wp_X6_move 5 50 v5 9 p0 v3 x14 (fun u15 : XRow => ∀ x16 : Int32, x16 = v4 + x14 → (∀ x17 : Int32, x17 = v3 + 1 → (wp_X4_sortOut_L26 dM p0 u1 u2 k26_97 fu x17 x16 u15))))))))))
def wp_X4_sortOut (dM : XRow) (dP : XRow) (p0 : Int32) (post : (Int32 × XRow) → Prop) : Prop := wp_X6_sum 5 50 dP 9 (fun u1 : Int32 => wp_X6_get 7 42 dM p0 0 (fun u2 : Int32 => ∃ fl, wp_X4_sortOut_L26 dM p0 u1 u2 (fun (v18 : Int32) (v19 : Int32) (v20 : XRow) => post (v19, v20)) fl 0 0 dP))
theorem in_X4_sortOut_X4 : ∀ w ∈ u_ws RX4 TX4 9, w ∈ wsX4_sortOut := by decide +kernel
set_option maxRecDepth 100000 in
set_option maxHeartbeats 4000000 in
theorem c_X4_sortOut (l : Launch) (D : va_G) (cy : Nat → ClassId) (sd : xSd) (A : Nat → Nat) (dS : XRow) (dM : XRow) (dP : XRow) (dN : XRow) (dBc : Int32) (dO : XRow) (dC : XRow) (dCc : Int32) (dR : XRow) (dMc : Int32) (dZ : Int32) (dPc : Int32) (p0 : Int32) {post : (Int32 × XRow) → Prop} (hw : wp_X4_sortOut dM dP p0 post) : Ctr l D (xTys cy) sd yX4_sortOut wsX4_sortOut ({ frames := 3, cells := 0, slots := 0, locals := 71 } : Room) [.ref (A 0), .int p0] (fun u : Int32 × XRow => some (.int u.1)) [((A 0), .inr (5, [.ref (A 1), .ref (A 3), .ref (A 5), .ref (A 7), .ref (A 12), .ref (A 15), .int dMc, .int dZ, .int dPc])), ((A 1), .inr (7, [.int 5, .ref (A 2)])), ((A 2), .inl (cy 0, 5, .inl dS)), ((A 3), .inr (7, [.int 7, .ref (A 4)])), ((A 4), .inl (cy 0, 42, .inl dM)), ((A 5), .inr (7, [.int 5, .ref (A 6)])), ((A 6), .inl (cy 0, 50, .inl dP)), ((A 7), .inr (2, [.ref (A 8), .ref (A 10), .int dBc])), ((A 8), .inr (7, [.int 12, .ref (A 9)])), ((A 9), .inl (cy 0, 720, .inl dN)), ((A 10), .inr (7, [.int 60, .ref (A 11)])), ((A 11), .inl (cy 0, 60, .inl dO)), ((A 12), .inr (3, [.ref (A 13), .int dCc])), ((A 13), .inr (7, [.int 5, .ref (A 14)])), ((A 14), .inl (cy 0, 40, .inl dC)), ((A 15), .inr (7, [.int 5, .ref (A 16)])), ((A 16), .inl (cy 0, 5, .inl dR))] (fun u => [((A 0), .inr (5, [.ref (A 1), .ref (A 3), .ref (A 5), .ref (A 7), .ref (A 12), .ref (A 15), .int dMc, .int dZ, .int dPc])), ((A 1), .inr (7, [.int 5, .ref (A 2)])), ((A 2), .inl (cy 0, 5, .inl dS)), ((A 3), .inr (7, [.int 7, .ref (A 4)])), ((A 4), .inl (cy 0, 42, .inl dM)), ((A 5), .inr (7, [.int 5, .ref (A 6)])), ((A 6), .inl (cy 0, 50, .inl u.2)), ((A 7), .inr (2, [.ref (A 8), .ref (A 10), .int dBc])), ((A 8), .inr (7, [.int 12, .ref (A 9)])), ((A 9), .inl (cy 0, 720, .inl dN)), ((A 10), .inr (7, [.int 60, .ref (A 11)])), ((A 11), .inl (cy 0, 60, .inl dO)), ((A 12), .inr (3, [.ref (A 13), .int dCc])), ((A 13), .inr (7, [.int 5, .ref (A 14)])), ((A 14), .inl (cy 0, 40, .inl dC)), ((A 15), .inr (7, [.int 5, .ref (A 16)])), ((A 16), .inl (cy 0, 5, .inl dR))]) post := by
  refine Ctr.of (cc := cX4_sortOut) (maxL := 8) (ret := (some .int)) (lv0 := [(0, .ref (A 0)), (1, .int p0)]) (by decide) rfl (Nat.le_of_ble_eq_true rfl) rfl ?_
  intro X El hR Er Enm ED E En K
  have K : Cx X cX4_sortOut RX4 wsX4_sortOut (xTys cy) sd := K
  have E : X.2.2.2.2.2.2.2.2.2.2.1 = xMQ X (fun u : Int32 × XRow => some (.int u.1)) post (fun u => [((A 0), .inr (5, [.ref (A 1), .ref (A 3), .ref (A 5), .ref (A 7), .ref (A 12), .ref (A 15), .int dMc, .int dZ, .int dPc])), ((A 1), .inr (7, [.int 5, .ref (A 2)])), ((A 2), .inl (cy 0, 5, .inl dS)), ((A 3), .inr (7, [.int 7, .ref (A 4)])), ((A 4), .inl (cy 0, 42, .inl dM)), ((A 5), .inr (7, [.int 5, .ref (A 6)])), ((A 6), .inl (cy 0, 50, .inl u.2)), ((A 7), .inr (2, [.ref (A 8), .ref (A 10), .int dBc])), ((A 8), .inr (7, [.int 12, .ref (A 9)])), ((A 9), .inl (cy 0, 720, .inl dN)), ((A 10), .inr (7, [.int 60, .ref (A 11)])), ((A 11), .inl (cy 0, 60, .inl dO)), ((A 12), .inr (3, [.ref (A 13), .int dCc])), ((A 13), .inr (7, [.int 5, .ref (A 14)])), ((A 14), .inl (cy 0, 40, .inl dC)), ((A 15), .inr (7, [.int 5, .ref (A 16)])), ((A 16), .inl (cy 0, 5, .inl dR))]) 0 0 := E
  unfold wp_X4_sortOut at hw
  refine g_aload_n K 0 dX4_sortOut_0 rfl ?_
  refine g_get K (C := RX4) (T := TX4) (N := 9) 0 2 in_X4_sortOut_X4 (by decide +kernel) rfl rfl (by decide) rfl dX4_sortOut_1 ?_
  refine g_bipush (v := 9) K dX4_sortOut_4 rfl ?_
  refine g_callVr (st' := fun u1 => [.int u1]) K hR [.int 9] [] 5 rfl rfl (c_X6_sum X.2.1 (gxD X) cy sd (A 5) (A 6) 5 50 dP 9 hw) gX4_sortOut_X6_sum rfl yok_X6_sum rfl rfl (by decide) rfl (Nat.le_of_ble_eq_true rfl) dX4_sortOut_6 [5, 6] rfl (by decide) (fun _ => rfl) ⟨rfl, rfl⟩ (fun u1 hw => ?_)
  refine g_istore_n (lv' := [(2, .int u1), (0, .ref (A 0)), (1, .int p0)]) K dX4_sortOut_9 rfl (by rw [En]; decide) rfl ?_
  refine g_aload_n K 1 dX4_sortOut_10 rfl ?_
  refine g_get K (C := RX4) (T := TX4) (N := 9) 0 1 in_X4_sortOut_X4 (by decide +kernel) rfl rfl (by decide) rfl dX4_sortOut_11 ?_
  refine g_iload_n K 2 dX4_sortOut_14 rfl ?_
  refine g_iconst (v := 0) K dX4_sortOut_15 rfl ?_
  refine g_callVr (st' := fun u2 => [.int u2]) K hR [.int p0, .int 0] [] 3 rfl rfl (c_X6_get X.2.1 (gxD X) cy sd (A 3) (A 4) 7 42 dM p0 0 hw) gX4_sortOut_X6_get rfl yok_X6_get rfl rfl (by decide) rfl (Nat.le_of_ble_eq_true rfl) dX4_sortOut_16 [3, 4] rfl (by decide) (fun _ => rfl) ⟨rfl, rfl⟩ (fun u2 hw => ?_)
  refine g_istore_n (lv' := [(3, .int u2), (2, .int u1), (0, .ref (A 0)), (1, .int p0)]) K dX4_sortOut_19 rfl (by rw [En]; decide) rfl ?_
  refine g_iconst (v := 0) K dX4_sortOut_20 rfl ?_
  refine g_istore (lv' := [(4, .int 0), (3, .int u2), (2, .int u1), (0, .ref (A 0)), (1, .int p0)]) K dX4_sortOut_21 (by rw [En]; decide) rfl ?_
  refine g_iconst (v := 0) K dX4_sortOut_23 rfl ?_
  refine g_istore (lv' := [(5, .int 0), (4, .int 0), (3, .int u2), (2, .int u1), (0, .ref (A 0)), (1, .int p0)]) K dX4_sortOut_24 (by rw [En]; decide) rfl ?_
  obtain ⟨fl, hw⟩ := hw
  have key : ∀ (k26_97 : Int32 → Int32 → XRow → Prop), (∀ (v3 : Int32) (v4 : Int32) (v5 : XRow), k26_97 v3 v4 v5 → Gx X 0 0 [((A 0), .inr (5, [.ref (A 1), .ref (A 3), .ref (A 5), .ref (A 7), .ref (A 12), .ref (A 15), .int dMc, .int dZ, .int dPc])), ((A 1), .inr (7, [.int 5, .ref (A 2)])), ((A 2), .inl (cy 0, 5, .inl dS)), ((A 3), .inr (7, [.int 7, .ref (A 4)])), ((A 4), .inl (cy 0, 42, .inl dM)), ((A 5), .inr (7, [.int 5, .ref (A 6)])), ((A 6), .inl (cy 0, 50, .inl v5)), ((A 7), .inr (2, [.ref (A 8), .ref (A 10), .int dBc])), ((A 8), .inr (7, [.int 12, .ref (A 9)])), ((A 9), .inl (cy 0, 720, .inl dN)), ((A 10), .inr (7, [.int 60, .ref (A 11)])), ((A 11), .inl (cy 0, 60, .inl dO)), ((A 12), .inr (3, [.ref (A 13), .int dCc])), ((A 13), .inr (7, [.int 5, .ref (A 14)])), ((A 14), .inl (cy 0, 40, .inl dC)), ((A 15), .inr (7, [.int 5, .ref (A 16)])), ((A 16), .inl (cy 0, 5, .inl dR))] [(5, .int v3), (4, .int v4), (3, .int u2), (2, .int u1), (0, .ref (A 0)), (1, .int p0)] 97 []) → ∀ (n : Nat) (v3 : Int32) (v4 : Int32) (v5 : XRow), wp_X4_sortOut_L26 dM p0 u1 u2 k26_97 n v3 v4 v5 → Gx X 0 0 [((A 0), .inr (5, [.ref (A 1), .ref (A 3), .ref (A 5), .ref (A 7), .ref (A 12), .ref (A 15), .int dMc, .int dZ, .int dPc])), ((A 1), .inr (7, [.int 5, .ref (A 2)])), ((A 2), .inl (cy 0, 5, .inl dS)), ((A 3), .inr (7, [.int 7, .ref (A 4)])), ((A 4), .inl (cy 0, 42, .inl dM)), ((A 5), .inr (7, [.int 5, .ref (A 6)])), ((A 6), .inl (cy 0, 50, .inl v5)), ((A 7), .inr (2, [.ref (A 8), .ref (A 10), .int dBc])), ((A 8), .inr (7, [.int 12, .ref (A 9)])), ((A 9), .inl (cy 0, 720, .inl dN)), ((A 10), .inr (7, [.int 60, .ref (A 11)])), ((A 11), .inl (cy 0, 60, .inl dO)), ((A 12), .inr (3, [.ref (A 13), .int dCc])), ((A 13), .inr (7, [.int 5, .ref (A 14)])), ((A 14), .inl (cy 0, 40, .inl dC)), ((A 15), .inr (7, [.int 5, .ref (A 16)])), ((A 16), .inl (cy 0, 5, .inl dR))] [(5, .int v3), (4, .int v4), (3, .int u2), (2, .int u1), (0, .ref (A 0)), (1, .int p0)] 26 [] := by
    intro k26_97 hx97 n
    induction n with
    | zero => intro v3 v4 v5 hw; exact hw.elim
    | succ n ih =>
      intro v3 v4 v5 hw
      refine g_iload K 0 dX4_sortOut_26 rfl ?_
      refine g_iconst (v := 5) K dX4_sortOut_28 rfl ?_
      refine g_icmp_ge (tgt := 97) K dX4_sortOut_29 (by decide) (fun hc => ?_) (fun hc => ?_)
      · replace hw := hw.1 hc
        exact hx97 _ _ _ hw
      · replace hw := hw.2 hc
        refine g_aload_n K 4 dX4_sortOut_32 rfl ?_
        refine g_iload_n K 5 dX4_sortOut_33 rfl ?_
        refine g_iload_n K 3 dX4_sortOut_34 rfl ?_
        refine g_iload K 0 dX4_sortOut_35 rfl ?_
        refine g_iload_n K 2 dX4_sortOut_37 rfl ?_
        refine g_icmp_eq (tgt := 45) K dX4_sortOut_38 (by decide) (fun hc => ?_) (fun hc => ?_)
        · replace hw := hw.1 hc
          refine g_iconst (v := 0) K dX4_sortOut_45 rfl ?_
          refine g_callVr (st' := fun u6 => [.int u6]) K hR [.int p0, .int u1, .int (bI false)] [] 0 rfl rfl (c_X4_rateOf X.2.1 (gxD X) cy sd A dS dM v5 dN dBc dO dC dCc dR dMc dZ dPc p0 u1 false hw) gX4_sortOut_X4_rateOf rfl yok_X4_rateOf rfl rfl (by decide) rfl (Nat.le_of_ble_eq_true rfl) dX4_sortOut_46 [0, 1, 2, 3, 4, 5, 6, 7, 8, 9, 10, 11, 12, 13, 14, 15, 16] rfl (by decide) (fun _ => rfl) ⟨rfl, rfl⟩ (fun u6 hw => ?_)
          refine g_istore (lv' := [(6, .int u6), (5, .int v3), (4, .int v4), (3, .int u2), (2, .int u1), (0, .ref (A 0)), (1, .int p0)]) K dX4_sortOut_49 (by rw [En]; decide) rfl ?_
          refine g_aload_n K 5 dX4_sortOut_51 rfl ?_
          refine g_get K (C := RX4) (T := TX4) (N := 9) 0 2 in_X4_sortOut_X4 (by decide +kernel) rfl rfl (by decide) rfl dX4_sortOut_52 ?_
          refine g_bipush (v := 9) K dX4_sortOut_55 rfl ?_
          refine g_iload K 1 dX4_sortOut_57 rfl ?_
          refine g_callVr (st' := fun u7 => [.int u7]) K hR [.int 9, .int v3] [] 5 rfl rfl (c_X6_get X.2.1 (gxD X) cy sd (A 5) (A 6) 5 50 v5 9 v3 hw) gX4_sortOut_X6_get rfl yok_X6_get rfl rfl (by decide) rfl (Nat.le_of_ble_eq_true rfl) dX4_sortOut_59 [5, 6] rfl (by decide) (fun _ => rfl) ⟨rfl, rfl⟩ (fun u7 hw => ?_)
          refine g_iload K 0 dX4_sortOut_62 rfl ?_
          refine g_imul K dX4_sortOut_64 ?_
          refine g_bipush (v := 100) K dX4_sortOut_65 rfl ?_
          refine g_idiv K dX4_sortOut_67 (by decide) ?_
          refine g_topi (fun x8 ex8 => ?_)
          replace hw := hw x8 ex8
          refine g_istore (lv' := [(7, .int x8), (6, .int u6), (5, .int v3), (4, .int v4), (3, .int u2), (2, .int u1), (0, .ref (A 0)), (1, .int p0)]) K dX4_sortOut_68 (by rw [En]; decide) rfl ?_
          refine g_aload_n K 6 dX4_sortOut_70 rfl ?_
          refine g_get K (C := RX4) (T := TX4) (N := 9) 0 2 in_X4_sortOut_X4 (by decide +kernel) rfl rfl (by decide) rfl dX4_sortOut_71 ?_
          refine g_bipush (v := 9) K dX4_sortOut_74 rfl ?_
          refine g_iload_n K 7 dX4_sortOut_76 rfl ?_
          refine g_iload K 2 dX4_sortOut_77 rfl ?_
          refine g_iload K 0 dX4_sortOut_79 rfl ?_
          refine g_callV (st' := fun u9 => []) (ws' := fun u9 => [((A 0), .inr (5, [.ref (A 1), .ref (A 3), .ref (A 5), .ref (A 7), .ref (A 12), .ref (A 15), .int dMc, .int dZ, .int dPc])), ((A 1), .inr (7, [.int 5, .ref (A 2)])), ((A 2), .inl (cy 0, 5, .inl dS)), ((A 3), .inr (7, [.int 7, .ref (A 4)])), ((A 4), .inl (cy 0, 42, .inl dM)), ((A 5), .inr (7, [.int 5, .ref (A 6)])), ((A 6), .inl (cy 0, 50, .inl u9)), ((A 7), .inr (2, [.ref (A 8), .ref (A 10), .int dBc])), ((A 8), .inr (7, [.int 12, .ref (A 9)])), ((A 9), .inl (cy 0, 720, .inl dN)), ((A 10), .inr (7, [.int 60, .ref (A 11)])), ((A 11), .inl (cy 0, 60, .inl dO)), ((A 12), .inr (3, [.ref (A 13), .int dCc])), ((A 13), .inr (7, [.int 5, .ref (A 14)])), ((A 14), .inl (cy 0, 40, .inl dC)), ((A 15), .inr (7, [.int 5, .ref (A 16)])), ((A 16), .inl (cy 0, 5, .inl dR))]) K hR [.int 9, .int p0, .int v3, .int x8] [] 5 rfl rfl (c_X6_move X.2.1 (gxD X) cy sd (A 5) (A 6) 5 50 v5 9 p0 v3 x8 hw) gX4_sortOut_X6_move rfl yok_X6_move rfl rfl (by decide) rfl (Nat.le_of_ble_eq_true rfl) dX4_sortOut_81 [5, 6] rfl (by decide) (fun _ => rfl) (fun _ => rfl) (fun _ => rfl) ⟨rfl, rfl⟩ (fun u9 hw => ?_)
          refine g_iload K 3 dX4_sortOut_84 rfl ?_
          refine g_iload K 0 dX4_sortOut_86 rfl ?_
          refine g_iadd K dX4_sortOut_88 ?_
          refine g_topi (fun x10 ex10 => ?_)
          replace hw := hw x10 ex10
          refine g_istore (lv' := [(4, .int x10), (7, .int x8), (6, .int u6), (5, .int v3), (3, .int u2), (2, .int u1), (0, .ref (A 0)), (1, .int p0)]) K dX4_sortOut_89 (by rw [En]; decide) rfl ?_
          obtain ⟨x11, ex11⟩ : ∃ z : Int32, z = v3 + 1 := ⟨_, rfl⟩
          replace hw := hw x11 ex11
          refine g_iinc (v := x11) (lv' := [(5, .int x11), (4, .int x10), (7, .int x8), (6, .int u6), (3, .int u2), (2, .int u1), (0, .ref (A 0)), (1, .int p0)]) K 3 dX4_sortOut_91 rfl (by rw [ex11]; rfl) (by rw [En]; decide) rfl ?_
          refine g_goto (tgt := 26) K dX4_sortOut_94 (by decide) ?_
          refine gx_locals [0, 1, 4, 5, 6, 7] rfl ?_
          exact ih _ _ _ hw
        · replace hw := hw.2 hc
          refine g_iconst (v := 1) K dX4_sortOut_41 rfl ?_
          refine g_goto (tgt := 46) K dX4_sortOut_42 (by decide) ?_
          refine g_callVr (st' := fun u12 => [.int u12]) K hR [.int p0, .int u1, .int (bI true)] [] 0 rfl rfl (c_X4_rateOf X.2.1 (gxD X) cy sd A dS dM v5 dN dBc dO dC dCc dR dMc dZ dPc p0 u1 true hw) gX4_sortOut_X4_rateOf rfl yok_X4_rateOf rfl rfl (by decide) rfl (Nat.le_of_ble_eq_true rfl) dX4_sortOut_46 [0, 1, 2, 3, 4, 5, 6, 7, 8, 9, 10, 11, 12, 13, 14, 15, 16] rfl (by decide) (fun _ => rfl) ⟨rfl, rfl⟩ (fun u12 hw => ?_)
          refine g_istore (lv' := [(6, .int u12), (5, .int v3), (4, .int v4), (3, .int u2), (2, .int u1), (0, .ref (A 0)), (1, .int p0)]) K dX4_sortOut_49 (by rw [En]; decide) rfl ?_
          refine g_aload_n K 5 dX4_sortOut_51 rfl ?_
          refine g_get K (C := RX4) (T := TX4) (N := 9) 0 2 in_X4_sortOut_X4 (by decide +kernel) rfl rfl (by decide) rfl dX4_sortOut_52 ?_
          refine g_bipush (v := 9) K dX4_sortOut_55 rfl ?_
          refine g_iload K 1 dX4_sortOut_57 rfl ?_
          refine g_callVr (st' := fun u13 => [.int u13]) K hR [.int 9, .int v3] [] 5 rfl rfl (c_X6_get X.2.1 (gxD X) cy sd (A 5) (A 6) 5 50 v5 9 v3 hw) gX4_sortOut_X6_get rfl yok_X6_get rfl rfl (by decide) rfl (Nat.le_of_ble_eq_true rfl) dX4_sortOut_59 [5, 6] rfl (by decide) (fun _ => rfl) ⟨rfl, rfl⟩ (fun u13 hw => ?_)
          refine g_iload K 0 dX4_sortOut_62 rfl ?_
          refine g_imul K dX4_sortOut_64 ?_
          refine g_bipush (v := 100) K dX4_sortOut_65 rfl ?_
          refine g_idiv K dX4_sortOut_67 (by decide) ?_
          refine g_topi (fun x14 ex14 => ?_)
          replace hw := hw x14 ex14
          refine g_istore (lv' := [(7, .int x14), (6, .int u12), (5, .int v3), (4, .int v4), (3, .int u2), (2, .int u1), (0, .ref (A 0)), (1, .int p0)]) K dX4_sortOut_68 (by rw [En]; decide) rfl ?_
          refine g_aload_n K 6 dX4_sortOut_70 rfl ?_
          refine g_get K (C := RX4) (T := TX4) (N := 9) 0 2 in_X4_sortOut_X4 (by decide +kernel) rfl rfl (by decide) rfl dX4_sortOut_71 ?_
          refine g_bipush (v := 9) K dX4_sortOut_74 rfl ?_
          refine g_iload_n K 7 dX4_sortOut_76 rfl ?_
          refine g_iload K 2 dX4_sortOut_77 rfl ?_
          refine g_iload K 0 dX4_sortOut_79 rfl ?_
          refine g_callV (st' := fun u15 => []) (ws' := fun u15 => [((A 0), .inr (5, [.ref (A 1), .ref (A 3), .ref (A 5), .ref (A 7), .ref (A 12), .ref (A 15), .int dMc, .int dZ, .int dPc])), ((A 1), .inr (7, [.int 5, .ref (A 2)])), ((A 2), .inl (cy 0, 5, .inl dS)), ((A 3), .inr (7, [.int 7, .ref (A 4)])), ((A 4), .inl (cy 0, 42, .inl dM)), ((A 5), .inr (7, [.int 5, .ref (A 6)])), ((A 6), .inl (cy 0, 50, .inl u15)), ((A 7), .inr (2, [.ref (A 8), .ref (A 10), .int dBc])), ((A 8), .inr (7, [.int 12, .ref (A 9)])), ((A 9), .inl (cy 0, 720, .inl dN)), ((A 10), .inr (7, [.int 60, .ref (A 11)])), ((A 11), .inl (cy 0, 60, .inl dO)), ((A 12), .inr (3, [.ref (A 13), .int dCc])), ((A 13), .inr (7, [.int 5, .ref (A 14)])), ((A 14), .inl (cy 0, 40, .inl dC)), ((A 15), .inr (7, [.int 5, .ref (A 16)])), ((A 16), .inl (cy 0, 5, .inl dR))]) K hR [.int 9, .int p0, .int v3, .int x14] [] 5 rfl rfl (c_X6_move X.2.1 (gxD X) cy sd (A 5) (A 6) 5 50 v5 9 p0 v3 x14 hw) gX4_sortOut_X6_move rfl yok_X6_move rfl rfl (by decide) rfl (Nat.le_of_ble_eq_true rfl) dX4_sortOut_81 [5, 6] rfl (by decide) (fun _ => rfl) (fun _ => rfl) (fun _ => rfl) ⟨rfl, rfl⟩ (fun u15 hw => ?_)
          refine g_iload K 3 dX4_sortOut_84 rfl ?_
          refine g_iload K 0 dX4_sortOut_86 rfl ?_
          refine g_iadd K dX4_sortOut_88 ?_
          refine g_topi (fun x16 ex16 => ?_)
          replace hw := hw x16 ex16
          refine g_istore (lv' := [(4, .int x16), (7, .int x14), (6, .int u12), (5, .int v3), (3, .int u2), (2, .int u1), (0, .ref (A 0)), (1, .int p0)]) K dX4_sortOut_89 (by rw [En]; decide) rfl ?_
          obtain ⟨x17, ex17⟩ : ∃ z : Int32, z = v3 + 1 := ⟨_, rfl⟩
          replace hw := hw x17 ex17
          refine g_iinc (v := x17) (lv' := [(5, .int x17), (4, .int x16), (7, .int x14), (6, .int u12), (3, .int u2), (2, .int u1), (0, .ref (A 0)), (1, .int p0)]) K 3 dX4_sortOut_91 rfl (by rw [ex17]; rfl) (by rw [En]; decide) rfl ?_
          refine g_goto (tgt := 26) K dX4_sortOut_94 (by decide) ?_
          refine gx_locals [0, 1, 4, 5, 6, 7] rfl ?_
          exact ih _ _ _ hw
  refine key _ (fun v18 v19 v20 hw => ?_) fl _ _ _ hw
  refine g_iload K 1 dX4_sortOut_97 rfl ?_
  exact g_zret K E Er (v19, v20) hw rfl rfl rfl (Nat.le_refl _) (Nat.le_refl _) dX4_sortOut_99

def wp_X4_clearBelt_L4 (dS : XRow) (k4_75 : Int32 → Int32 → XRow → Prop) : Nat → Int32 → Int32 → XRow → Prop
  | 0, _, _, _ => False
  | fu + 1, v1, v2, v3 => (5 ≤ v1 → (k4_75 v1 v2 v3)) ∧ (¬ 5 ≤ v1 → (wp_X6_get 5 50 v3 9 v1 (fun u4 : Int32 => wp_X4_setting dS 1 (fun u5 : Int32 => ∀ x6 : Int32, x6 = (u4 * u5) / 100 → (wp_X6_move 5 50 v3 9 6 v1 x6 (fun u7 : XRow => wp_X6_move 5 50 u7 9 7 v1 (u4 - x6) (fun u8 : XRow => ∀ x9 : Int32, x9 = v2 + (u4 - x6) → (∀ x10 : Int32, x10 = v1 + 1 → (wp_X4_clearBelt_L4 dS k4_75 fu x10 x9 u8)))))))))
def wp_X4_clearBelt (dS : XRow) (dP : XRow) (post : (Int32 × XRow) → Prop) : Prop := ∃ fl, wp_X4_clearBelt_L4 dS (fun (v11 : Int32) (v12 : Int32) (v13 : XRow) => post (v12, v13)) fl 0 0 dP
theorem in_X4_clearBelt_X4 : ∀ w ∈ u_ws RX4 TX4 9, w ∈ wsX4_clearBelt := by decide +kernel
set_option maxRecDepth 100000 in
set_option maxHeartbeats 4000000 in
theorem c_X4_clearBelt (l : Launch) (D : va_G) (cy : Nat → ClassId) (sd : xSd) (A : Nat → Nat) (dS : XRow) (dM : XRow) (dP : XRow) (dN : XRow) (dBc : Int32) (dO : XRow) (dC : XRow) (dCc : Int32) (dR : XRow) (dMc : Int32) (dZ : Int32) (dPc : Int32) {post : (Int32 × XRow) → Prop} (hw : wp_X4_clearBelt dS dP post) : Ctr l D (xTys cy) sd yX4_clearBelt wsX4_clearBelt ({ frames := 3, cells := 0, slots := 0, locals := 71 } : Room) [.ref (A 0)] (fun u : Int32 × XRow => some (.int u.1)) [((A 0), .inr (5, [.ref (A 1), .ref (A 3), .ref (A 5), .ref (A 7), .ref (A 12), .ref (A 15), .int dMc, .int dZ, .int dPc])), ((A 1), .inr (7, [.int 5, .ref (A 2)])), ((A 2), .inl (cy 0, 5, .inl dS)), ((A 3), .inr (7, [.int 7, .ref (A 4)])), ((A 4), .inl (cy 0, 42, .inl dM)), ((A 5), .inr (7, [.int 5, .ref (A 6)])), ((A 6), .inl (cy 0, 50, .inl dP)), ((A 7), .inr (2, [.ref (A 8), .ref (A 10), .int dBc])), ((A 8), .inr (7, [.int 12, .ref (A 9)])), ((A 9), .inl (cy 0, 720, .inl dN)), ((A 10), .inr (7, [.int 60, .ref (A 11)])), ((A 11), .inl (cy 0, 60, .inl dO)), ((A 12), .inr (3, [.ref (A 13), .int dCc])), ((A 13), .inr (7, [.int 5, .ref (A 14)])), ((A 14), .inl (cy 0, 40, .inl dC)), ((A 15), .inr (7, [.int 5, .ref (A 16)])), ((A 16), .inl (cy 0, 5, .inl dR))] (fun u => [((A 0), .inr (5, [.ref (A 1), .ref (A 3), .ref (A 5), .ref (A 7), .ref (A 12), .ref (A 15), .int dMc, .int dZ, .int dPc])), ((A 1), .inr (7, [.int 5, .ref (A 2)])), ((A 2), .inl (cy 0, 5, .inl dS)), ((A 3), .inr (7, [.int 7, .ref (A 4)])), ((A 4), .inl (cy 0, 42, .inl dM)), ((A 5), .inr (7, [.int 5, .ref (A 6)])), ((A 6), .inl (cy 0, 50, .inl u.2)), ((A 7), .inr (2, [.ref (A 8), .ref (A 10), .int dBc])), ((A 8), .inr (7, [.int 12, .ref (A 9)])), ((A 9), .inl (cy 0, 720, .inl dN)), ((A 10), .inr (7, [.int 60, .ref (A 11)])), ((A 11), .inl (cy 0, 60, .inl dO)), ((A 12), .inr (3, [.ref (A 13), .int dCc])), ((A 13), .inr (7, [.int 5, .ref (A 14)])), ((A 14), .inl (cy 0, 40, .inl dC)), ((A 15), .inr (7, [.int 5, .ref (A 16)])), ((A 16), .inl (cy 0, 5, .inl dR))]) post := by
  refine Ctr.of (cc := cX4_clearBelt) (maxL := 5) (ret := (some .int)) (lv0 := [(0, .ref (A 0))]) (by decide) rfl (Nat.le_of_ble_eq_true rfl) rfl ?_
  intro X El hR Er Enm ED E En K
  have K : Cx X cX4_clearBelt RX4 wsX4_clearBelt (xTys cy) sd := K
  have E : X.2.2.2.2.2.2.2.2.2.2.1 = xMQ X (fun u : Int32 × XRow => some (.int u.1)) post (fun u => [((A 0), .inr (5, [.ref (A 1), .ref (A 3), .ref (A 5), .ref (A 7), .ref (A 12), .ref (A 15), .int dMc, .int dZ, .int dPc])), ((A 1), .inr (7, [.int 5, .ref (A 2)])), ((A 2), .inl (cy 0, 5, .inl dS)), ((A 3), .inr (7, [.int 7, .ref (A 4)])), ((A 4), .inl (cy 0, 42, .inl dM)), ((A 5), .inr (7, [.int 5, .ref (A 6)])), ((A 6), .inl (cy 0, 50, .inl u.2)), ((A 7), .inr (2, [.ref (A 8), .ref (A 10), .int dBc])), ((A 8), .inr (7, [.int 12, .ref (A 9)])), ((A 9), .inl (cy 0, 720, .inl dN)), ((A 10), .inr (7, [.int 60, .ref (A 11)])), ((A 11), .inl (cy 0, 60, .inl dO)), ((A 12), .inr (3, [.ref (A 13), .int dCc])), ((A 13), .inr (7, [.int 5, .ref (A 14)])), ((A 14), .inl (cy 0, 40, .inl dC)), ((A 15), .inr (7, [.int 5, .ref (A 16)])), ((A 16), .inl (cy 0, 5, .inl dR))]) 0 0 := E
  unfold wp_X4_clearBelt at hw
  refine g_iconst (v := 0) K dX4_clearBelt_0 rfl ?_
  refine g_istore_n (lv' := [(1, .int 0), (0, .ref (A 0))]) K dX4_clearBelt_1 rfl (by rw [En]; decide) rfl ?_
  refine g_iconst (v := 0) K dX4_clearBelt_2 rfl ?_
  refine g_istore_n (lv' := [(2, .int 0), (1, .int 0), (0, .ref (A 0))]) K dX4_clearBelt_3 rfl (by rw [En]; decide) rfl ?_
  obtain ⟨fl, hw⟩ := hw
  have key : ∀ (k4_75 : Int32 → Int32 → XRow → Prop), (∀ (v1 : Int32) (v2 : Int32) (v3 : XRow), k4_75 v1 v2 v3 → Gx X 0 0 [((A 0), .inr (5, [.ref (A 1), .ref (A 3), .ref (A 5), .ref (A 7), .ref (A 12), .ref (A 15), .int dMc, .int dZ, .int dPc])), ((A 1), .inr (7, [.int 5, .ref (A 2)])), ((A 2), .inl (cy 0, 5, .inl dS)), ((A 3), .inr (7, [.int 7, .ref (A 4)])), ((A 4), .inl (cy 0, 42, .inl dM)), ((A 5), .inr (7, [.int 5, .ref (A 6)])), ((A 6), .inl (cy 0, 50, .inl v3)), ((A 7), .inr (2, [.ref (A 8), .ref (A 10), .int dBc])), ((A 8), .inr (7, [.int 12, .ref (A 9)])), ((A 9), .inl (cy 0, 720, .inl dN)), ((A 10), .inr (7, [.int 60, .ref (A 11)])), ((A 11), .inl (cy 0, 60, .inl dO)), ((A 12), .inr (3, [.ref (A 13), .int dCc])), ((A 13), .inr (7, [.int 5, .ref (A 14)])), ((A 14), .inl (cy 0, 40, .inl dC)), ((A 15), .inr (7, [.int 5, .ref (A 16)])), ((A 16), .inl (cy 0, 5, .inl dR))] [(2, .int v1), (1, .int v2), (0, .ref (A 0))] 75 []) → ∀ (n : Nat) (v1 : Int32) (v2 : Int32) (v3 : XRow), wp_X4_clearBelt_L4 dS k4_75 n v1 v2 v3 → Gx X 0 0 [((A 0), .inr (5, [.ref (A 1), .ref (A 3), .ref (A 5), .ref (A 7), .ref (A 12), .ref (A 15), .int dMc, .int dZ, .int dPc])), ((A 1), .inr (7, [.int 5, .ref (A 2)])), ((A 2), .inl (cy 0, 5, .inl dS)), ((A 3), .inr (7, [.int 7, .ref (A 4)])), ((A 4), .inl (cy 0, 42, .inl dM)), ((A 5), .inr (7, [.int 5, .ref (A 6)])), ((A 6), .inl (cy 0, 50, .inl v3)), ((A 7), .inr (2, [.ref (A 8), .ref (A 10), .int dBc])), ((A 8), .inr (7, [.int 12, .ref (A 9)])), ((A 9), .inl (cy 0, 720, .inl dN)), ((A 10), .inr (7, [.int 60, .ref (A 11)])), ((A 11), .inl (cy 0, 60, .inl dO)), ((A 12), .inr (3, [.ref (A 13), .int dCc])), ((A 13), .inr (7, [.int 5, .ref (A 14)])), ((A 14), .inl (cy 0, 40, .inl dC)), ((A 15), .inr (7, [.int 5, .ref (A 16)])), ((A 16), .inl (cy 0, 5, .inl dR))] [(2, .int v1), (1, .int v2), (0, .ref (A 0))] 4 [] := by
    intro k4_75 hx75 n
    induction n with
    | zero => intro v1 v2 v3 hw; exact hw.elim
    | succ n ih =>
      intro v1 v2 v3 hw
      refine g_iload_n K 0 dX4_clearBelt_4 rfl ?_
      refine g_iconst (v := 5) K dX4_clearBelt_5 rfl ?_
      refine g_icmp_ge (tgt := 75) K dX4_clearBelt_6 (by decide) (fun hc => ?_) (fun hc => ?_)
      · replace hw := hw.1 hc
        exact hx75 _ _ _ hw
      · replace hw := hw.2 hc
        refine g_aload_n K 2 dX4_clearBelt_9 rfl ?_
        refine g_get K (C := RX4) (T := TX4) (N := 9) 0 2 in_X4_clearBelt_X4 (by decide +kernel) rfl rfl (by decide) rfl dX4_clearBelt_10 ?_
        refine g_bipush (v := 9) K dX4_clearBelt_13 rfl ?_
        refine g_iload_n K 0 dX4_clearBelt_15 rfl ?_
        refine g_callVr (st' := fun u4 => [.int u4]) K hR [.int 9, .int v1] [] 5 rfl rfl (c_X6_get X.2.1 (gxD X) cy sd (A 5) (A 6) 5 50 v3 9 v1 hw) gX4_clearBelt_X6_get rfl yok_X6_get rfl rfl (by decide) rfl (Nat.le_of_ble_eq_true rfl) dX4_clearBelt_16 [5, 6] rfl (by decide) (fun _ => rfl) ⟨rfl, rfl⟩ (fun u4 hw => ?_)
        refine g_istore_n (lv' := [(3, .int u4), (2, .int v1), (1, .int v2), (0, .ref (A 0))]) K dX4_clearBelt_19 rfl (by rw [En]; decide) rfl ?_
        refine g_iload_n K 0 dX4_clearBelt_20 rfl ?_
        refine g_aload_n K 3 dX4_clearBelt_21 rfl ?_
        refine g_iconst (v := 1) K dX4_clearBelt_22 rfl ?_
        refine g_callVr (st' := fun u5 => [.int u5, .int u4]) K hR [.int 1] [.int u4] 0 rfl rfl (c_X4_setting X.2.1 (gxD X) cy sd A dS dM v3 dN dBc dO dC dCc dR dMc dZ dPc 1 hw) gX4_clearBelt_X4_setting rfl yok_X4_setting rfl rfl (by decide) rfl (Nat.le_of_ble_eq_true rfl) dX4_clearBelt_23 [0, 1, 2, 3, 4, 5, 6, 7, 8, 9, 10, 11, 12, 13, 14, 15, 16] rfl (by decide) (fun _ => rfl) ⟨rfl, rfl⟩ (fun u5 hw => ?_)
        refine g_imul K dX4_clearBelt_26 ?_
        refine g_bipush (v := 100) K dX4_clearBelt_27 rfl ?_
        refine g_idiv K dX4_clearBelt_29 (by decide) ?_
        refine g_topi (fun x6 ex6 => ?_)
        replace hw := hw x6 ex6
        refine g_istore (lv' := [(4, .int x6), (3, .int u4), (2, .int v1), (1, .int v2), (0, .ref (A 0))]) K dX4_clearBelt_30 (by rw [En]; decide) rfl ?_
        refine g_aload_n K 4 dX4_clearBelt_32 rfl ?_
        refine g_get K (C := RX4) (T := TX4) (N := 9) 0 2 in_X4_clearBelt_X4 (by decide +kernel) rfl rfl (by decide) rfl dX4_clearBelt_33 ?_
        refine g_bipush (v := 9) K dX4_clearBelt_36 rfl ?_
        refine g_bipush (v := 6) K dX4_clearBelt_38 rfl ?_
        refine g_iload_n K 2 dX4_clearBelt_40 rfl ?_
        refine g_iload K 0 dX4_clearBelt_41 rfl ?_
        refine g_callV (st' := fun u7 => []) (ws' := fun u7 => [((A 0), .inr (5, [.ref (A 1), .ref (A 3), .ref (A 5), .ref (A 7), .ref (A 12), .ref (A 15), .int dMc, .int dZ, .int dPc])), ((A 1), .inr (7, [.int 5, .ref (A 2)])), ((A 2), .inl (cy 0, 5, .inl dS)), ((A 3), .inr (7, [.int 7, .ref (A 4)])), ((A 4), .inl (cy 0, 42, .inl dM)), ((A 5), .inr (7, [.int 5, .ref (A 6)])), ((A 6), .inl (cy 0, 50, .inl u7)), ((A 7), .inr (2, [.ref (A 8), .ref (A 10), .int dBc])), ((A 8), .inr (7, [.int 12, .ref (A 9)])), ((A 9), .inl (cy 0, 720, .inl dN)), ((A 10), .inr (7, [.int 60, .ref (A 11)])), ((A 11), .inl (cy 0, 60, .inl dO)), ((A 12), .inr (3, [.ref (A 13), .int dCc])), ((A 13), .inr (7, [.int 5, .ref (A 14)])), ((A 14), .inl (cy 0, 40, .inl dC)), ((A 15), .inr (7, [.int 5, .ref (A 16)])), ((A 16), .inl (cy 0, 5, .inl dR))]) K hR [.int 9, .int 6, .int v1, .int x6] [] 5 rfl rfl (c_X6_move X.2.1 (gxD X) cy sd (A 5) (A 6) 5 50 v3 9 6 v1 x6 hw) gX4_clearBelt_X6_move rfl yok_X6_move rfl rfl (by decide) rfl (Nat.le_of_ble_eq_true rfl) dX4_clearBelt_43 [5, 6] rfl (by decide) (fun _ => rfl) (fun _ => rfl) (fun _ => rfl) ⟨rfl, rfl⟩ (fun u7 hw => ?_)
        refine g_aload_n K 4 dX4_clearBelt_46 rfl ?_
        refine g_get K (C := RX4) (T := TX4) (N := 9) 0 2 in_X4_clearBelt_X4 (by decide +kernel) rfl rfl (by decide) rfl dX4_clearBelt_47 ?_
        refine g_bipush (v := 9) K dX4_clearBelt_50 rfl ?_
        refine g_bipush (v := 7) K dX4_clearBelt_52 rfl ?_
        refine g_iload_n K 2 dX4_clearBelt_54 rfl ?_
        refine g_iload_n K 1 dX4_clearBelt_55 rfl ?_
        refine g_iload K 0 dX4_clearBelt_56 rfl ?_
        refine g_isub K dX4_clearBelt_58 ?_
        refine g_callV (st' := fun u8 => []) (ws' := fun u8 => [((A 0), .inr (5, [.ref (A 1), .ref (A 3), .ref (A 5), .ref (A 7), .ref (A 12), .ref (A 15), .int dMc, .int dZ, .int dPc])), ((A 1), .inr (7, [.int 5, .ref (A 2)])), ((A 2), .inl (cy 0, 5, .inl dS)), ((A 3), .inr (7, [.int 7, .ref (A 4)])), ((A 4), .inl (cy 0, 42, .inl dM)), ((A 5), .inr (7, [.int 5, .ref (A 6)])), ((A 6), .inl (cy 0, 50, .inl u8)), ((A 7), .inr (2, [.ref (A 8), .ref (A 10), .int dBc])), ((A 8), .inr (7, [.int 12, .ref (A 9)])), ((A 9), .inl (cy 0, 720, .inl dN)), ((A 10), .inr (7, [.int 60, .ref (A 11)])), ((A 11), .inl (cy 0, 60, .inl dO)), ((A 12), .inr (3, [.ref (A 13), .int dCc])), ((A 13), .inr (7, [.int 5, .ref (A 14)])), ((A 14), .inl (cy 0, 40, .inl dC)), ((A 15), .inr (7, [.int 5, .ref (A 16)])), ((A 16), .inl (cy 0, 5, .inl dR))]) K hR [.int 9, .int 7, .int v1, .int (u4 - x6)] [] 5 rfl rfl (c_X6_move X.2.1 (gxD X) cy sd (A 5) (A 6) 5 50 u7 9 7 v1 (u4 - x6) hw) gX4_clearBelt_X6_move rfl yok_X6_move rfl rfl (by decide) rfl (Nat.le_of_ble_eq_true rfl) dX4_clearBelt_59 [5, 6] rfl (by decide) (fun _ => rfl) (fun _ => rfl) (fun _ => rfl) ⟨rfl, rfl⟩ (fun u8 hw => ?_)
        refine g_iload_n K 3 dX4_clearBelt_62 rfl ?_
        refine g_iload_n K 1 dX4_clearBelt_63 rfl ?_
        refine g_iload K 0 dX4_clearBelt_64 rfl ?_
        refine g_isub K dX4_clearBelt_66 ?_
        refine g_iadd K dX4_clearBelt_67 ?_
        refine g_topi (fun x9 ex9 => ?_)
        replace hw := hw x9 ex9
        refine g_istore_n (lv' := [(1, .int x9), (4, .int x6), (3, .int u4), (2, .int v1), (0, .ref (A 0))]) K dX4_clearBelt_68 rfl (by rw [En]; decide) rfl ?_
        obtain ⟨x10, ex10⟩ : ∃ z : Int32, z = v1 + 1 := ⟨_, rfl⟩
        replace hw := hw x10 ex10
        refine g_iinc (v := x10) (lv' := [(2, .int x10), (1, .int x9), (4, .int x6), (3, .int u4), (0, .ref (A 0))]) K 3 dX4_clearBelt_69 rfl (by rw [ex10]; rfl) (by rw [En]; decide) rfl ?_
        refine g_goto (tgt := 4) K dX4_clearBelt_72 (by decide) ?_
        refine gx_locals [0, 1, 4] rfl ?_
        exact ih _ _ _ hw
  refine key _ (fun v11 v12 v13 hw => ?_) fl _ _ _ hw
  refine g_iload_n K 1 dX4_clearBelt_75 rfl ?_
  exact g_zret K E Er (v12, v13) hw rfl rfl rfl (Nat.le_refl _) (Nat.le_refl _) dX4_clearBelt_76

def wp_X4_takeShare_o8_L16 (dP : XRow) (p0 : Int32) (p1 : Int32) (p2 : Int32) (u1 : Int32) (k16_105 : Int32 → Int32 → XRow → XRow → Prop) : Nat → Int32 → Int32 → XRow → XRow → Prop
  | 0, _, _, _, _ => False
  | fu + 1, v2, v3, v4, v5 => (5 ≤ v2 → (k16_105 v2 v3 v4 v5)) ∧ (¬ 5 ≤ v2 → (wp_X6_get 5 50 dP p0 v2 (fun u6 : Int32 => ∀ x7 : Int64, x7 = u6.toInt64 * p1.toInt64 → ((u1 ≤ 0 → ((u1 ≤ 0 → (wp_X6_put 5 5 v5 0 v2 0 (fun u8 : XRow => wp_X6_put 12 720 v4 p2 v2 0 (fun u9 : XRow => ∀ x10 : Int32, x10 = v3 - 0 → (∀ x11 : Int32, x11 = v2 + 1 → (wp_X4_takeShare_o8_L16 dP p0 p1 p2 u1 k16_105 fu x11 x10 u9 u8)))))) ∧ (¬ u1 ≤ 0 → ((¬ u1.toInt64 = 0) ∧ (wp_X6_put 5 5 v5 0 v2 ((x7 - x7 / u1.toInt64 * u1.toInt64).toInt32) (fun u12 : XRow => wp_X6_put 12 720 v4 p2 v2 0 (fun u13 : XRow => ∀ x14 : Int32, x14 = v3 - 0 → (∀ x15 : Int32, x15 = v2 + 1 → (wp_X4_takeShare_o8_L16 dP p0 p1 p2 u1 k16_105 fu x15 x14 u13 u12))))))))) ∧ (¬ u1 ≤ 0 → ((¬ u1.toInt64 = 0) ∧ (∀ x16 : Int32, x16 = (x7 / u1.toInt64).toInt32 → ((u1 ≤ 0 → (wp_X6_put 5 5 v5 0 v2 0 (fun u17 : XRow => wp_X6_put 12 720 v4 p2 v2 x16 (fun u18 : XRow => ∀ x19 : Int32, x19 = v3 - x16 → (∀ x20 : Int32, x20 = v2 + 1 → (wp_X4_takeShare_o8_L16 dP p0 p1 p2 u1 k16_105 fu x20 x19 u18 u17)))))) ∧ (¬ u1 ≤ 0 → ((¬ u1.toInt64 = 0) ∧ (wp_X6_put 5 5 v5 0 v2 ((x7 - x7 / u1.toInt64 * u1.toInt64).toInt32) (fun u21 : XRow => wp_X6_put 12 720 v4 p2 v2 x16 (fun u22 : XRow => ∀ x23 : Int32, x23 = v3 - x16 → (∀ x24 : Int32, x24 = v2 + 1 → (wp_X4_takeShare_o8_L16 dP p0 p1 p2 u1 k16_105 fu x24 x23 u22 u21)))))))))))))))
def wp_X4_takeShare_o8_L108 (p2 : Int32) (v26 : Int32) (k108_151 : Int32 → XRow → XRow → Prop) : Nat → Int32 → XRow → XRow → Prop
  | 0, _, _, _ => False
  | fu + 1, v29, v30, v31 => (v26 ≤ v29 → (k108_151 v29 v30 v31)) ∧ (¬ v26 ≤ v29 → (wp_X6_columnOfGreatest 5 5 v31 0 (fun u32 : Int32 => wp_X6_add 12 720 v30 p2 u32 1 (fun u33 : XRow => wp_X6_put 5 5 v31 0 u32 (-1) (fun u34 : XRow => ∀ x35 : Int32, x35 = v29 + 1 → (wp_X4_takeShare_o8_L108 p2 v26 k108_151 fu x35 u33 u34))))))
def wp_X4_takeShare_o8_L154 (p0 : Int32) (p2 : Int32) (v37 : XRow) (k154_185 : Int32 → XRow → Prop) : Nat → Int32 → XRow → Prop
  | 0, _, _ => False
  | fu + 1, v39, v40 => (5 ≤ v39 → (k154_185 v39 v40)) ∧ (¬ 5 ≤ v39 → (wp_X6_get 12 720 v37 p2 v39 (fun u41 : Int32 => wp_X6_add 5 50 v40 p0 v39 (-u41) (fun u42 : XRow => ∀ x43 : Int32, x43 = v39 + 1 → (wp_X4_takeShare_o8_L154 p0 p2 v37 k154_185 fu x43 u42)))))
def wp_X4_takeShare_o8 (dP : XRow) (dN : XRow) (dR : XRow) (p0 : Int32) (p1 : Int32) (p2 : Int32) (post : (XRow × XRow × XRow) → Prop) : Prop := wp_X6_sum 5 50 dP p0 (fun u1 : Int32 => ∃ fl, wp_X4_takeShare_o8_L16 dP p0 p1 p2 u1 (fun (v25 : Int32) (v26 : Int32) (v27 : XRow) (v28 : XRow) => ∃ fl, wp_X4_takeShare_o8_L108 p2 v26 (fun (v36 : Int32) (v37 : XRow) (v38 : XRow) => ∃ fl, wp_X4_takeShare_o8_L154 p0 p2 v37 (fun (v44 : Int32) (v45 : XRow) => post (v45, v37, v38)) fl 0 dP) fl 0 v27 v28) fl 0 p1 dN dR)
theorem in_X4_takeShare_o8_X4 : ∀ w ∈ u_ws RX4 TX4 9, w ∈ wsX4_takeShare := by decide +kernel
set_option maxRecDepth 100000 in
set_option maxHeartbeats 4000000 in
theorem c_X4_takeShare_o8 (l : Launch) (D : va_G) (cy : Nat → ClassId) (sd : xSd) (A : Nat → Nat) (dS : XRow) (dM : XRow) (dP : XRow) (dN : XRow) (dBc : Int32) (dO : XRow) (dC : XRow) (dCc : Int32) (dR : XRow) (dMc : Int32) (dZ : Int32) (dPc : Int32) (p0 : Int32) (p1 : Int32) (p2 : Int32) {post : (XRow × XRow × XRow) → Prop} (hw : wp_X4_takeShare_o8 dP dN dR p0 p1 p2 post) : Ctr l D (xTys cy) sd yX4_takeShare wsX4_takeShare ({ frames := 2, cells := 0, slots := 0, locals := 47 } : Room) [.ref (A 0), .int p0, .int p1, .ref (A 8), .int p2] (fun u : XRow × XRow × XRow => none) [((A 0), .inr (5, [.ref (A 1), .ref (A 3), .ref (A 5), .ref (A 7), .ref (A 12), .ref (A 15), .int dMc, .int dZ, .int dPc])), ((A 1), .inr (7, [.int 5, .ref (A 2)])), ((A 2), .inl (cy 0, 5, .inl dS)), ((A 3), .inr (7, [.int 7, .ref (A 4)])), ((A 4), .inl (cy 0, 42, .inl dM)), ((A 5), .inr (7, [.int 5, .ref (A 6)])), ((A 6), .inl (cy 0, 50, .inl dP)), ((A 7), .inr (2, [.ref (A 8), .ref (A 10), .int dBc])), ((A 8), .inr (7, [.int 12, .ref (A 9)])), ((A 9), .inl (cy 0, 720, .inl dN)), ((A 10), .inr (7, [.int 60, .ref (A 11)])), ((A 11), .inl (cy 0, 60, .inl dO)), ((A 12), .inr (3, [.ref (A 13), .int dCc])), ((A 13), .inr (7, [.int 5, .ref (A 14)])), ((A 14), .inl (cy 0, 40, .inl dC)), ((A 15), .inr (7, [.int 5, .ref (A 16)])), ((A 16), .inl (cy 0, 5, .inl dR))] (fun u => [((A 0), .inr (5, [.ref (A 1), .ref (A 3), .ref (A 5), .ref (A 7), .ref (A 12), .ref (A 15), .int dMc, .int dZ, .int dPc])), ((A 1), .inr (7, [.int 5, .ref (A 2)])), ((A 2), .inl (cy 0, 5, .inl dS)), ((A 3), .inr (7, [.int 7, .ref (A 4)])), ((A 4), .inl (cy 0, 42, .inl dM)), ((A 5), .inr (7, [.int 5, .ref (A 6)])), ((A 6), .inl (cy 0, 50, .inl u.1)), ((A 7), .inr (2, [.ref (A 8), .ref (A 10), .int dBc])), ((A 8), .inr (7, [.int 12, .ref (A 9)])), ((A 9), .inl (cy 0, 720, .inl u.2.1)), ((A 10), .inr (7, [.int 60, .ref (A 11)])), ((A 11), .inl (cy 0, 60, .inl dO)), ((A 12), .inr (3, [.ref (A 13), .int dCc])), ((A 13), .inr (7, [.int 5, .ref (A 14)])), ((A 14), .inl (cy 0, 40, .inl dC)), ((A 15), .inr (7, [.int 5, .ref (A 16)])), ((A 16), .inl (cy 0, 5, .inl u.2.2))]) post := by
  refine Ctr.of (cc := cX4_takeShare) (maxL := 11) (ret := none) (lv0 := [(0, .ref (A 0)), (1, .int p0), (2, .int p1), (3, .ref (A 8)), (4, .int p2)]) (by decide) rfl (Nat.le_of_ble_eq_true rfl) rfl ?_
  intro X El hR Er Enm ED E En K
  have K : Cx X cX4_takeShare RX4 wsX4_takeShare (xTys cy) sd := K
  have E : X.2.2.2.2.2.2.2.2.2.2.1 = xMQ X (fun u : XRow × XRow × XRow => none) post (fun u => [((A 0), .inr (5, [.ref (A 1), .ref (A 3), .ref (A 5), .ref (A 7), .ref (A 12), .ref (A 15), .int dMc, .int dZ, .int dPc])), ((A 1), .inr (7, [.int 5, .ref (A 2)])), ((A 2), .inl (cy 0, 5, .inl dS)), ((A 3), .inr (7, [.int 7, .ref (A 4)])), ((A 4), .inl (cy 0, 42, .inl dM)), ((A 5), .inr (7, [.int 5, .ref (A 6)])), ((A 6), .inl (cy 0, 50, .inl u.1)), ((A 7), .inr (2, [.ref (A 8), .ref (A 10), .int dBc])), ((A 8), .inr (7, [.int 12, .ref (A 9)])), ((A 9), .inl (cy 0, 720, .inl u.2.1)), ((A 10), .inr (7, [.int 60, .ref (A 11)])), ((A 11), .inl (cy 0, 60, .inl dO)), ((A 12), .inr (3, [.ref (A 13), .int dCc])), ((A 13), .inr (7, [.int 5, .ref (A 14)])), ((A 14), .inl (cy 0, 40, .inl dC)), ((A 15), .inr (7, [.int 5, .ref (A 16)])), ((A 16), .inl (cy 0, 5, .inl u.2.2))]) 0 0 := E
  unfold wp_X4_takeShare_o8 at hw
  refine g_aload_n K 0 dX4_takeShare_0 rfl ?_
  refine g_get K (C := RX4) (T := TX4) (N := 9) 0 2 in_X4_takeShare_o8_X4 (by decide +kernel) rfl rfl (by decide) rfl dX4_takeShare_1 ?_
  refine g_iload_n K 1 dX4_takeShare_4 rfl ?_
  refine g_callVr (st' := fun u1 => [.int u1]) K hR [.int p0] [] 5 rfl rfl (c_X6_sum X.2.1 (gxD X) cy sd (A 5) (A 6) 5 50 dP p0 hw) gX4_takeShare_X6_sum rfl yok_X6_sum rfl rfl (by decide) rfl (Nat.le_of_ble_eq_true rfl) dX4_takeShare_5 [5, 6] rfl (by decide) (fun _ => rfl) ⟨rfl, rfl⟩ (fun u1 hw => ?_)
  refine g_istore (lv' := [(5, .int u1), (0, .ref (A 0)), (1, .int p0), (2, .int p1), (3, .ref (A 8)), (4, .int p2)]) K dX4_takeShare_8 (by rw [En]; decide) rfl ?_
  refine g_iload_n K 3 dX4_takeShare_10 rfl ?_
  refine g_istore (lv' := [(6, .int p1), (5, .int u1), (0, .ref (A 0)), (1, .int p0), (2, .int p1), (3, .ref (A 8)), (4, .int p2)]) K dX4_takeShare_11 (by rw [En]; decide) rfl ?_
  refine g_iconst (v := 0) K dX4_takeShare_13 rfl ?_
  refine g_istore (lv' := [(7, .int 0), (6, .int p1), (5, .int u1), (0, .ref (A 0)), (1, .int p0), (2, .int p1), (3, .ref (A 8)), (4, .int p2)]) K dX4_takeShare_14 (by rw [En]; decide) rfl ?_
  obtain ⟨fl, hw⟩ := hw
  have key : ∀ (k16_105 : Int32 → Int32 → XRow → XRow → Prop), (∀ (v2 : Int32) (v3 : Int32) (v4 : XRow) (v5 : XRow), k16_105 v2 v3 v4 v5 → Gx X 0 0 [((A 0), .inr (5, [.ref (A 1), .ref (A 3), .ref (A 5), .ref (A 7), .ref (A 12), .ref (A 15), .int dMc, .int dZ, .int dPc])), ((A 1), .inr (7, [.int 5, .ref (A 2)])), ((A 2), .inl (cy 0, 5, .inl dS)), ((A 3), .inr (7, [.int 7, .ref (A 4)])), ((A 4), .inl (cy 0, 42, .inl dM)), ((A 5), .inr (7, [.int 5, .ref (A 6)])), ((A 6), .inl (cy 0, 50, .inl dP)), ((A 7), .inr (2, [.ref (A 8), .ref (A 10), .int dBc])), ((A 8), .inr (7, [.int 12, .ref (A 9)])), ((A 9), .inl (cy 0, 720, .inl v4)), ((A 10), .inr (7, [.int 60, .ref (A 11)])), ((A 11), .inl (cy 0, 60, .inl dO)), ((A 12), .inr (3, [.ref (A 13), .int dCc])), ((A 13), .inr (7, [.int 5, .ref (A 14)])), ((A 14), .inl (cy 0, 40, .inl dC)), ((A 15), .inr (7, [.int 5, .ref (A 16)])), ((A 16), .inl (cy 0, 5, .inl v5))] [(7, .int v2), (6, .int v3), (5, .int u1), (0, .ref (A 0)), (1, .int p0), (2, .int p1), (3, .ref (A 8)), (4, .int p2)] 105 []) → ∀ (n : Nat) (v2 : Int32) (v3 : Int32) (v4 : XRow) (v5 : XRow), wp_X4_takeShare_o8_L16 dP p0 p1 p2 u1 k16_105 n v2 v3 v4 v5 → Gx X 0 0 [((A 0), .inr (5, [.ref (A 1), .ref (A 3), .ref (A 5), .ref (A 7), .ref (A 12), .ref (A 15), .int dMc, .int dZ, .int dPc])), ((A 1), .inr (7, [.int 5, .ref (A 2)])), ((A 2), .inl (cy 0, 5, .inl dS)), ((A 3), .inr (7, [.int 7, .ref (A 4)])), ((A 4), .inl (cy 0, 42, .inl dM)), ((A 5), .inr (7, [.int 5, .ref (A 6)])), ((A 6), .inl (cy 0, 50, .inl dP)), ((A 7), .inr (2, [.ref (A 8), .ref (A 10), .int dBc])), ((A 8), .inr (7, [.int 12, .ref (A 9)])), ((A 9), .inl (cy 0, 720, .inl v4)), ((A 10), .inr (7, [.int 60, .ref (A 11)])), ((A 11), .inl (cy 0, 60, .inl dO)), ((A 12), .inr (3, [.ref (A 13), .int dCc])), ((A 13), .inr (7, [.int 5, .ref (A 14)])), ((A 14), .inl (cy 0, 40, .inl dC)), ((A 15), .inr (7, [.int 5, .ref (A 16)])), ((A 16), .inl (cy 0, 5, .inl v5))] [(7, .int v2), (6, .int v3), (5, .int u1), (0, .ref (A 0)), (1, .int p0), (2, .int p1), (3, .ref (A 8)), (4, .int p2)] 16 [] := by
    intro k16_105 hx105 n
    induction n with
    | zero => intro v2 v3 v4 v5 hw; exact hw.elim
    | succ n ih =>
      intro v2 v3 v4 v5 hw
      refine g_iload K 0 dX4_takeShare_16 rfl ?_
      refine g_iconst (v := 5) K dX4_takeShare_18 rfl ?_
      refine g_icmp_ge (tgt := 105) K dX4_takeShare_19 (by decide) (fun hc => ?_) (fun hc => ?_)
      · replace hw := hw.1 hc
        exact hx105 _ _ _ _ hw
      · replace hw := hw.2 hc
        refine g_aload_n K 3 dX4_takeShare_22 rfl ?_
        refine g_get K (C := RX4) (T := TX4) (N := 9) 0 2 in_X4_takeShare_o8_X4 (by decide +kernel) rfl rfl (by decide) rfl dX4_takeShare_23 ?_
        refine g_iload_n K 4 dX4_takeShare_26 rfl ?_
        refine g_iload K 0 dX4_takeShare_27 rfl ?_
        refine g_callVr (st' := fun u6 => [.int u6]) K hR [.int p0, .int v2] [] 5 rfl rfl (c_X6_get X.2.1 (gxD X) cy sd (A 5) (A 6) 5 50 dP p0 v2 hw) gX4_takeShare_X6_get rfl yok_X6_get rfl rfl (by decide) rfl (Nat.le_of_ble_eq_true rfl) dX4_takeShare_29 [5, 6] rfl (by decide) (fun _ => rfl) ⟨rfl, rfl⟩ (fun u6 hw => ?_)
        refine g_i2l (v := u6.toInt64) K dX4_takeShare_32 rfl ?_
        refine g_iload_n K 5 dX4_takeShare_33 rfl ?_
        refine g_i2l (v := p1.toInt64) K dX4_takeShare_34 rfl ?_
        refine g_lmul K dX4_takeShare_35 ?_
        refine g_topl (fun x7 ex7 => ?_)
        replace hw := hw x7 ex7
        refine g_lstore (lv' := [(8, .long x7), (7, .int v2), (6, .int v3), (5, .int u1), (0, .ref (A 0)), (1, .int p0), (2, .int p1), (3, .ref (A 8)), (4, .int p2)]) K dX4_takeShare_36 (by rw [En]; decide) rfl ?_
        refine g_iload K 3 dX4_takeShare_38 rfl ?_
        refine g_if_le (tgt := 53) K dX4_takeShare_40 (by decide) (fun hc => ?_) (fun hc => ?_)
        · replace hw := hw.1 hc
          refine g_iconst (v := 0) K dX4_takeShare_53 rfl ?_
          refine g_istore (lv' := [(10, .int 0), (8, .long x7), (7, .int v2), (6, .int v3), (5, .int u1), (0, .ref (A 0)), (1, .int p0), (2, .int p1), (3, .ref (A 8)), (4, .int p2)]) K dX4_takeShare_54 (by rw [En]; decide) rfl ?_
          refine g_aload_n K 5 dX4_takeShare_56 rfl ?_
          refine g_get K (C := RX4) (T := TX4) (N := 9) 0 5 in_X4_takeShare_o8_X4 (by decide +kernel) rfl rfl (by decide) rfl dX4_takeShare_57 ?_
          refine g_iconst (v := 0) K dX4_takeShare_60 rfl ?_
          refine g_iload K 2 dX4_takeShare_61 rfl ?_
          refine g_iload K 4 dX4_takeShare_63 rfl ?_
          refine g_if_le (tgt := 78) K dX4_takeShare_65 (by decide) (fun hc => ?_) (fun hc => ?_)
          · replace hw := hw.1 hc
            refine g_iconst (v := 0) K dX4_takeShare_78 rfl ?_
            refine g_callV (st' := fun u8 => []) (ws' := fun u8 => [((A 0), .inr (5, [.ref (A 1), .ref (A 3), .ref (A 5), .ref (A 7), .ref (A 12), .ref (A 15), .int dMc, .int dZ, .int dPc])), ((A 1), .inr (7, [.int 5, .ref (A 2)])), ((A 2), .inl (cy 0, 5, .inl dS)), ((A 3), .inr (7, [.int 7, .ref (A 4)])), ((A 4), .inl (cy 0, 42, .inl dM)), ((A 5), .inr (7, [.int 5, .ref (A 6)])), ((A 6), .inl (cy 0, 50, .inl dP)), ((A 7), .inr (2, [.ref (A 8), .ref (A 10), .int dBc])), ((A 8), .inr (7, [.int 12, .ref (A 9)])), ((A 9), .inl (cy 0, 720, .inl v4)), ((A 10), .inr (7, [.int 60, .ref (A 11)])), ((A 11), .inl (cy 0, 60, .inl dO)), ((A 12), .inr (3, [.ref (A 13), .int dCc])), ((A 13), .inr (7, [.int 5, .ref (A 14)])), ((A 14), .inl (cy 0, 40, .inl dC)), ((A 15), .inr (7, [.int 5, .ref (A 16)])), ((A 16), .inl (cy 0, 5, .inl u8))]) K hR [.int 0, .int v2, .int 0] [] 15 rfl rfl (c_X6_put X.2.1 (gxD X) cy sd (A 15) (A 16) 5 5 v5 0 v2 0 hw) gX4_takeShare_X6_put rfl yok_X6_put rfl rfl (by decide) rfl (Nat.le_of_ble_eq_true rfl) dX4_takeShare_79 [15, 16] rfl (by decide) (fun _ => rfl) (fun _ => rfl) (fun _ => rfl) ⟨rfl, rfl⟩ (fun u8 hw => ?_)
            refine g_aload_n K 8 dX4_takeShare_82 rfl ?_
            refine g_iload K 9 dX4_takeShare_83 rfl ?_
            refine g_iload K 2 dX4_takeShare_85 rfl ?_
            refine g_iload K 0 dX4_takeShare_87 rfl ?_
            refine g_callV (st' := fun u9 => []) (ws' := fun u9 => [((A 0), .inr (5, [.ref (A 1), .ref (A 3), .ref (A 5), .ref (A 7), .ref (A 12), .ref (A 15), .int dMc, .int dZ, .int dPc])), ((A 1), .inr (7, [.int 5, .ref (A 2)])), ((A 2), .inl (cy 0, 5, .inl dS)), ((A 3), .inr (7, [.int 7, .ref (A 4)])), ((A 4), .inl (cy 0, 42, .inl dM)), ((A 5), .inr (7, [.int 5, .ref (A 6)])), ((A 6), .inl (cy 0, 50, .inl dP)), ((A 7), .inr (2, [.ref (A 8), .ref (A 10), .int dBc])), ((A 8), .inr (7, [.int 12, .ref (A 9)])), ((A 9), .inl (cy 0, 720, .inl u9)), ((A 10), .inr (7, [.int 60, .ref (A 11)])), ((A 11), .inl (cy 0, 60, .inl dO)), ((A 12), .inr (3, [.ref (A 13), .int dCc])), ((A 13), .inr (7, [.int 5, .ref (A 14)])), ((A 14), .inl (cy 0, 40, .inl dC)), ((A 15), .inr (7, [.int 5, .ref (A 16)])), ((A 16), .inl (cy 0, 5, .inl u8))]) K hR [.int p2, .int v2, .int 0] [] 8 rfl rfl (c_X6_put X.2.1 (gxD X) cy sd (A 8) (A 9) 12 720 v4 p2 v2 0 hw) gX4_takeShare_X6_put rfl yok_X6_put rfl rfl (by decide) rfl (Nat.le_of_ble_eq_true rfl) dX4_takeShare_89 [8, 9] rfl (by decide) (fun _ => rfl) (fun _ => rfl) (fun _ => rfl) ⟨rfl, rfl⟩ (fun u9 hw => ?_)
            refine g_iload K 3 dX4_takeShare_92 rfl ?_
            refine g_iload K 0 dX4_takeShare_94 rfl ?_
            refine g_isub K dX4_takeShare_96 ?_
            refine g_topi (fun x10 ex10 => ?_)
            replace hw := hw x10 ex10
            refine g_istore (lv' := [(6, .int x10), (10, .int 0), (8, .long x7), (7, .int v2), (5, .int u1), (0, .ref (A 0)), (1, .int p0), (2, .int p1), (3, .ref (A 8)), (4, .int p2)]) K dX4_takeShare_97 (by rw [En]; decide) rfl ?_
            obtain ⟨x11, ex11⟩ : ∃ z : Int32, z = v2 + 1 := ⟨_, rfl⟩
            replace hw := hw x11 ex11
            refine g_iinc (v := x11) (lv' := [(7, .int x11), (6, .int x10), (10, .int 0), (8, .long x7), (5, .int u1), (0, .ref (A 0)), (1, .int p0), (2, .int p1), (3, .ref (A 8)), (4, .int p2)]) K 3 dX4_takeShare_99 rfl (by rw [ex11]; rfl) (by rw [En]; decide) rfl ?_
            refine g_goto (tgt := 16) K dX4_takeShare_102 (by decide) ?_
            refine gx_locals [0, 1, 4, 5, 6, 7, 8, 9] rfl ?_
            exact ih _ _ _ _ hw
          · replace hw := hw.2 hc
            refine g_lload K 1 dX4_takeShare_68 rfl ?_
            refine g_iload K 4 dX4_takeShare_70 rfl ?_
            refine g_i2l (v := u1.toInt64) K dX4_takeShare_72 rfl ?_
            refine g_lrem K dX4_takeShare_73 hw.1 ?_
            replace hw := hw.2
            refine g_l2i (v := (x7 - x7 / u1.toInt64 * u1.toInt64).toInt32) K dX4_takeShare_74 rfl ?_
            refine g_goto (tgt := 79) K dX4_takeShare_75 (by decide) ?_
            refine g_callV (st' := fun u12 => []) (ws' := fun u12 => [((A 0), .inr (5, [.ref (A 1), .ref (A 3), .ref (A 5), .ref (A 7), .ref (A 12), .ref (A 15), .int dMc, .int dZ, .int dPc])), ((A 1), .inr (7, [.int 5, .ref (A 2)])), ((A 2), .inl (cy 0, 5, .inl dS)), ((A 3), .inr (7, [.int 7, .ref (A 4)])), ((A 4), .inl (cy 0, 42, .inl dM)), ((A 5), .inr (7, [.int 5, .ref (A 6)])), ((A 6), .inl (cy 0, 50, .inl dP)), ((A 7), .inr (2, [.ref (A 8), .ref (A 10), .int dBc])), ((A 8), .inr (7, [.int 12, .ref (A 9)])), ((A 9), .inl (cy 0, 720, .inl v4)), ((A 10), .inr (7, [.int 60, .ref (A 11)])), ((A 11), .inl (cy 0, 60, .inl dO)), ((A 12), .inr (3, [.ref (A 13), .int dCc])), ((A 13), .inr (7, [.int 5, .ref (A 14)])), ((A 14), .inl (cy 0, 40, .inl dC)), ((A 15), .inr (7, [.int 5, .ref (A 16)])), ((A 16), .inl (cy 0, 5, .inl u12))]) K hR [.int 0, .int v2, .int ((x7 - x7 / u1.toInt64 * u1.toInt64).toInt32)] [] 15 rfl rfl (c_X6_put X.2.1 (gxD X) cy sd (A 15) (A 16) 5 5 v5 0 v2 ((x7 - x7 / u1.toInt64 * u1.toInt64).toInt32) hw) gX4_takeShare_X6_put rfl yok_X6_put rfl rfl (by decide) rfl (Nat.le_of_ble_eq_true rfl) dX4_takeShare_79 [15, 16] rfl (by decide) (fun _ => rfl) (fun _ => rfl) (fun _ => rfl) ⟨rfl, rfl⟩ (fun u12 hw => ?_)
            refine g_aload_n K 8 dX4_takeShare_82 rfl ?_
            refine g_iload K 9 dX4_takeShare_83 rfl ?_
            refine g_iload K 2 dX4_takeShare_85 rfl ?_
            refine g_iload K 0 dX4_takeShare_87 rfl ?_
            refine g_callV (st' := fun u13 => []) (ws' := fun u13 => [((A 0), .inr (5, [.ref (A 1), .ref (A 3), .ref (A 5), .ref (A 7), .ref (A 12), .ref (A 15), .int dMc, .int dZ, .int dPc])), ((A 1), .inr (7, [.int 5, .ref (A 2)])), ((A 2), .inl (cy 0, 5, .inl dS)), ((A 3), .inr (7, [.int 7, .ref (A 4)])), ((A 4), .inl (cy 0, 42, .inl dM)), ((A 5), .inr (7, [.int 5, .ref (A 6)])), ((A 6), .inl (cy 0, 50, .inl dP)), ((A 7), .inr (2, [.ref (A 8), .ref (A 10), .int dBc])), ((A 8), .inr (7, [.int 12, .ref (A 9)])), ((A 9), .inl (cy 0, 720, .inl u13)), ((A 10), .inr (7, [.int 60, .ref (A 11)])), ((A 11), .inl (cy 0, 60, .inl dO)), ((A 12), .inr (3, [.ref (A 13), .int dCc])), ((A 13), .inr (7, [.int 5, .ref (A 14)])), ((A 14), .inl (cy 0, 40, .inl dC)), ((A 15), .inr (7, [.int 5, .ref (A 16)])), ((A 16), .inl (cy 0, 5, .inl u12))]) K hR [.int p2, .int v2, .int 0] [] 8 rfl rfl (c_X6_put X.2.1 (gxD X) cy sd (A 8) (A 9) 12 720 v4 p2 v2 0 hw) gX4_takeShare_X6_put rfl yok_X6_put rfl rfl (by decide) rfl (Nat.le_of_ble_eq_true rfl) dX4_takeShare_89 [8, 9] rfl (by decide) (fun _ => rfl) (fun _ => rfl) (fun _ => rfl) ⟨rfl, rfl⟩ (fun u13 hw => ?_)
            refine g_iload K 3 dX4_takeShare_92 rfl ?_
            refine g_iload K 0 dX4_takeShare_94 rfl ?_
            refine g_isub K dX4_takeShare_96 ?_
            refine g_topi (fun x14 ex14 => ?_)
            replace hw := hw x14 ex14
            refine g_istore (lv' := [(6, .int x14), (10, .int 0), (8, .long x7), (7, .int v2), (5, .int u1), (0, .ref (A 0)), (1, .int p0), (2, .int p1), (3, .ref (A 8)), (4, .int p2)]) K dX4_takeShare_97 (by rw [En]; decide) rfl ?_
            obtain ⟨x15, ex15⟩ : ∃ z : Int32, z = v2 + 1 := ⟨_, rfl⟩
            replace hw := hw x15 ex15
            refine g_iinc (v := x15) (lv' := [(7, .int x15), (6, .int x14), (10, .int 0), (8, .long x7), (5, .int u1), (0, .ref (A 0)), (1, .int p0), (2, .int p1), (3, .ref (A 8)), (4, .int p2)]) K 3 dX4_takeShare_99 rfl (by rw [ex15]; rfl) (by rw [En]; decide) rfl ?_
            refine g_goto (tgt := 16) K dX4_takeShare_102 (by decide) ?_
            refine gx_locals [0, 1, 4, 5, 6, 7, 8, 9] rfl ?_
            exact ih _ _ _ _ hw
        · replace hw := hw.2 hc
          refine g_lload K 0 dX4_takeShare_43 rfl ?_
          refine g_iload K 3 dX4_takeShare_45 rfl ?_
          refine g_i2l (v := u1.toInt64) K dX4_takeShare_47 rfl ?_
          refine g_ldiv K dX4_takeShare_48 hw.1 ?_
          replace hw := hw.2
          refine g_l2i (v := (x7 / u1.toInt64).toInt32) K dX4_takeShare_49 rfl ?_
          refine g_goto (tgt := 54) K dX4_takeShare_50 (by decide) ?_
          refine g_topi (fun x16 ex16 => ?_)
          replace hw := hw x16 ex16
          refine g_istore (lv' := [(10, .int x16), (8, .long x7), (7, .int v2), (6, .int v3), (5, .int u1), (0, .ref (A 0)), (1, .int p0), (2, .int p1), (3, .ref (A 8)), (4, .int p2)]) K dX4_takeShare_54 (by rw [En]; decide) rfl ?_
          refine g_aload_n K 5 dX4_takeShare_56 rfl ?_
          refine g_get K (C := RX4) (T := TX4) (N := 9) 0 5 in_X4_takeShare_o8_X4 (by decide +kernel) rfl rfl (by decide) rfl dX4_takeShare_57 ?_
          refine g_iconst (v := 0) K dX4_takeShare_60 rfl ?_
          refine g_iload K 2 dX4_takeShare_61 rfl ?_
          refine g_iload K 4 dX4_takeShare_63 rfl ?_
          refine g_if_le (tgt := 78) K dX4_takeShare_65 (by decide) (fun hc => ?_) (fun hc => ?_)
          · replace hw := hw.1 hc
            refine g_iconst (v := 0) K dX4_takeShare_78 rfl ?_
            refine g_callV (st' := fun u17 => []) (ws' := fun u17 => [((A 0), .inr (5, [.ref (A 1), .ref (A 3), .ref (A 5), .ref (A 7), .ref (A 12), .ref (A 15), .int dMc, .int dZ, .int dPc])), ((A 1), .inr (7, [.int 5, .ref (A 2)])), ((A 2), .inl (cy 0, 5, .inl dS)), ((A 3), .inr (7, [.int 7, .ref (A 4)])), ((A 4), .inl (cy 0, 42, .inl dM)), ((A 5), .inr (7, [.int 5, .ref (A 6)])), ((A 6), .inl (cy 0, 50, .inl dP)), ((A 7), .inr (2, [.ref (A 8), .ref (A 10), .int dBc])), ((A 8), .inr (7, [.int 12, .ref (A 9)])), ((A 9), .inl (cy 0, 720, .inl v4)), ((A 10), .inr (7, [.int 60, .ref (A 11)])), ((A 11), .inl (cy 0, 60, .inl dO)), ((A 12), .inr (3, [.ref (A 13), .int dCc])), ((A 13), .inr (7, [.int 5, .ref (A 14)])), ((A 14), .inl (cy 0, 40, .inl dC)), ((A 15), .inr (7, [.int 5, .ref (A 16)])), ((A 16), .inl (cy 0, 5, .inl u17))]) K hR [.int 0, .int v2, .int 0] [] 15 rfl rfl (c_X6_put X.2.1 (gxD X) cy sd (A 15) (A 16) 5 5 v5 0 v2 0 hw) gX4_takeShare_X6_put rfl yok_X6_put rfl rfl (by decide) rfl (Nat.le_of_ble_eq_true rfl) dX4_takeShare_79 [15, 16] rfl (by decide) (fun _ => rfl) (fun _ => rfl) (fun _ => rfl) ⟨rfl, rfl⟩ (fun u17 hw => ?_)
            refine g_aload_n K 8 dX4_takeShare_82 rfl ?_
            refine g_iload K 9 dX4_takeShare_83 rfl ?_
            refine g_iload K 2 dX4_takeShare_85 rfl ?_
            refine g_iload K 0 dX4_takeShare_87 rfl ?_
            refine g_callV (st' := fun u18 => []) (ws' := fun u18 => [((A 0), .inr (5, [.ref (A 1), .ref (A 3), .ref (A 5), .ref (A 7), .ref (A 12), .ref (A 15), .int dMc, .int dZ, .int dPc])), ((A 1), .inr (7, [.int 5, .ref (A 2)])), ((A 2), .inl (cy 0, 5, .inl dS)), ((A 3), .inr (7, [.int 7, .ref (A 4)])), ((A 4), .inl (cy 0, 42, .inl dM)), ((A 5), .inr (7, [.int 5, .ref (A 6)])), ((A 6), .inl (cy 0, 50, .inl dP)), ((A 7), .inr (2, [.ref (A 8), .ref (A 10), .int dBc])), ((A 8), .inr (7, [.int 12, .ref (A 9)])), ((A 9), .inl (cy 0, 720, .inl u18)), ((A 10), .inr (7, [.int 60, .ref (A 11)])), ((A 11), .inl (cy 0, 60, .inl dO)), ((A 12), .inr (3, [.ref (A 13), .int dCc])), ((A 13), .inr (7, [.int 5, .ref (A 14)])), ((A 14), .inl (cy 0, 40, .inl dC)), ((A 15), .inr (7, [.int 5, .ref (A 16)])), ((A 16), .inl (cy 0, 5, .inl u17))]) K hR [.int p2, .int v2, .int x16] [] 8 rfl rfl (c_X6_put X.2.1 (gxD X) cy sd (A 8) (A 9) 12 720 v4 p2 v2 x16 hw) gX4_takeShare_X6_put rfl yok_X6_put rfl rfl (by decide) rfl (Nat.le_of_ble_eq_true rfl) dX4_takeShare_89 [8, 9] rfl (by decide) (fun _ => rfl) (fun _ => rfl) (fun _ => rfl) ⟨rfl, rfl⟩ (fun u18 hw => ?_)
            refine g_iload K 3 dX4_takeShare_92 rfl ?_
            refine g_iload K 0 dX4_takeShare_94 rfl ?_
            refine g_isub K dX4_takeShare_96 ?_
            refine g_topi (fun x19 ex19 => ?_)
            replace hw := hw x19 ex19
            refine g_istore (lv' := [(6, .int x19), (10, .int x16), (8, .long x7), (7, .int v2), (5, .int u1), (0, .ref (A 0)), (1, .int p0), (2, .int p1), (3, .ref (A 8)), (4, .int p2)]) K dX4_takeShare_97 (by rw [En]; decide) rfl ?_
            obtain ⟨x20, ex20⟩ : ∃ z : Int32, z = v2 + 1 := ⟨_, rfl⟩
            replace hw := hw x20 ex20
            refine g_iinc (v := x20) (lv' := [(7, .int x20), (6, .int x19), (10, .int x16), (8, .long x7), (5, .int u1), (0, .ref (A 0)), (1, .int p0), (2, .int p1), (3, .ref (A 8)), (4, .int p2)]) K 3 dX4_takeShare_99 rfl (by rw [ex20]; rfl) (by rw [En]; decide) rfl ?_
            refine g_goto (tgt := 16) K dX4_takeShare_102 (by decide) ?_
            refine gx_locals [0, 1, 4, 5, 6, 7, 8, 9] rfl ?_
            exact ih _ _ _ _ hw
          · replace hw := hw.2 hc
            refine g_lload K 1 dX4_takeShare_68 rfl ?_
            refine g_iload K 4 dX4_takeShare_70 rfl ?_
            refine g_i2l (v := u1.toInt64) K dX4_takeShare_72 rfl ?_
            refine g_lrem K dX4_takeShare_73 hw.1 ?_
            replace hw := hw.2
            refine g_l2i (v := (x7 - x7 / u1.toInt64 * u1.toInt64).toInt32) K dX4_takeShare_74 rfl ?_
            refine g_goto (tgt := 79) K dX4_takeShare_75 (by decide) ?_
            refine g_callV (st' := fun u21 => []) (ws' := fun u21 => [((A 0), .inr (5, [.ref (A 1), .ref (A 3), .ref (A 5), .ref (A 7), .ref (A 12), .ref (A 15), .int dMc, .int dZ, .int dPc])), ((A 1), .inr (7, [.int 5, .ref (A 2)])), ((A 2), .inl (cy 0, 5, .inl dS)), ((A 3), .inr (7, [.int 7, .ref (A 4)])), ((A 4), .inl (cy 0, 42, .inl dM)), ((A 5), .inr (7, [.int 5, .ref (A 6)])), ((A 6), .inl (cy 0, 50, .inl dP)), ((A 7), .inr (2, [.ref (A 8), .ref (A 10), .int dBc])), ((A 8), .inr (7, [.int 12, .ref (A 9)])), ((A 9), .inl (cy 0, 720, .inl v4)), ((A 10), .inr (7, [.int 60, .ref (A 11)])), ((A 11), .inl (cy 0, 60, .inl dO)), ((A 12), .inr (3, [.ref (A 13), .int dCc])), ((A 13), .inr (7, [.int 5, .ref (A 14)])), ((A 14), .inl (cy 0, 40, .inl dC)), ((A 15), .inr (7, [.int 5, .ref (A 16)])), ((A 16), .inl (cy 0, 5, .inl u21))]) K hR [.int 0, .int v2, .int ((x7 - x7 / u1.toInt64 * u1.toInt64).toInt32)] [] 15 rfl rfl (c_X6_put X.2.1 (gxD X) cy sd (A 15) (A 16) 5 5 v5 0 v2 ((x7 - x7 / u1.toInt64 * u1.toInt64).toInt32) hw) gX4_takeShare_X6_put rfl yok_X6_put rfl rfl (by decide) rfl (Nat.le_of_ble_eq_true rfl) dX4_takeShare_79 [15, 16] rfl (by decide) (fun _ => rfl) (fun _ => rfl) (fun _ => rfl) ⟨rfl, rfl⟩ (fun u21 hw => ?_)
            refine g_aload_n K 8 dX4_takeShare_82 rfl ?_
            refine g_iload K 9 dX4_takeShare_83 rfl ?_
            refine g_iload K 2 dX4_takeShare_85 rfl ?_
            refine g_iload K 0 dX4_takeShare_87 rfl ?_
            refine g_callV (st' := fun u22 => []) (ws' := fun u22 => [((A 0), .inr (5, [.ref (A 1), .ref (A 3), .ref (A 5), .ref (A 7), .ref (A 12), .ref (A 15), .int dMc, .int dZ, .int dPc])), ((A 1), .inr (7, [.int 5, .ref (A 2)])), ((A 2), .inl (cy 0, 5, .inl dS)), ((A 3), .inr (7, [.int 7, .ref (A 4)])), ((A 4), .inl (cy 0, 42, .inl dM)), ((A 5), .inr (7, [.int 5, .ref (A 6)])), ((A 6), .inl (cy 0, 50, .inl dP)), ((A 7), .inr (2, [.ref (A 8), .ref (A 10), .int dBc])), ((A 8), .inr (7, [.int 12, .ref (A 9)])), ((A 9), .inl (cy 0, 720, .inl u22)), ((A 10), .inr (7, [.int 60, .ref (A 11)])), ((A 11), .inl (cy 0, 60, .inl dO)), ((A 12), .inr (3, [.ref (A 13), .int dCc])), ((A 13), .inr (7, [.int 5, .ref (A 14)])), ((A 14), .inl (cy 0, 40, .inl dC)), ((A 15), .inr (7, [.int 5, .ref (A 16)])), ((A 16), .inl (cy 0, 5, .inl u21))]) K hR [.int p2, .int v2, .int x16] [] 8 rfl rfl (c_X6_put X.2.1 (gxD X) cy sd (A 8) (A 9) 12 720 v4 p2 v2 x16 hw) gX4_takeShare_X6_put rfl yok_X6_put rfl rfl (by decide) rfl (Nat.le_of_ble_eq_true rfl) dX4_takeShare_89 [8, 9] rfl (by decide) (fun _ => rfl) (fun _ => rfl) (fun _ => rfl) ⟨rfl, rfl⟩ (fun u22 hw => ?_)
            refine g_iload K 3 dX4_takeShare_92 rfl ?_
            refine g_iload K 0 dX4_takeShare_94 rfl ?_
            refine g_isub K dX4_takeShare_96 ?_
            refine g_topi (fun x23 ex23 => ?_)
            replace hw := hw x23 ex23
            refine g_istore (lv' := [(6, .int x23), (10, .int x16), (8, .long x7), (7, .int v2), (5, .int u1), (0, .ref (A 0)), (1, .int p0), (2, .int p1), (3, .ref (A 8)), (4, .int p2)]) K dX4_takeShare_97 (by rw [En]; decide) rfl ?_
            obtain ⟨x24, ex24⟩ : ∃ z : Int32, z = v2 + 1 := ⟨_, rfl⟩
            replace hw := hw x24 ex24
            refine g_iinc (v := x24) (lv' := [(7, .int x24), (6, .int x23), (10, .int x16), (8, .long x7), (5, .int u1), (0, .ref (A 0)), (1, .int p0), (2, .int p1), (3, .ref (A 8)), (4, .int p2)]) K 3 dX4_takeShare_99 rfl (by rw [ex24]; rfl) (by rw [En]; decide) rfl ?_
            refine g_goto (tgt := 16) K dX4_takeShare_102 (by decide) ?_
            refine gx_locals [0, 1, 4, 5, 6, 7, 8, 9] rfl ?_
            exact ih _ _ _ _ hw
  refine key _ (fun v25 v26 v27 v28 hw => ?_) fl _ _ _ _ hw
  refine g_iconst (v := 0) K dX4_takeShare_105 rfl ?_
  refine g_istore (lv' := [(7, .int 0), (6, .int v26), (5, .int u1), (0, .ref (A 0)), (1, .int p0), (2, .int p1), (3, .ref (A 8)), (4, .int p2)]) K dX4_takeShare_106 (by rw [En]; decide) rfl ?_
  obtain ⟨fl, hw⟩ := hw
  have key : ∀ (k108_151 : Int32 → XRow → XRow → Prop), (∀ (v29 : Int32) (v30 : XRow) (v31 : XRow), k108_151 v29 v30 v31 → Gx X 0 0 [((A 0), .inr (5, [.ref (A 1), .ref (A 3), .ref (A 5), .ref (A 7), .ref (A 12), .ref (A 15), .int dMc, .int dZ, .int dPc])), ((A 1), .inr (7, [.int 5, .ref (A 2)])), ((A 2), .inl (cy 0, 5, .inl dS)), ((A 3), .inr (7, [.int 7, .ref (A 4)])), ((A 4), .inl (cy 0, 42, .inl dM)), ((A 5), .inr (7, [.int 5, .ref (A 6)])), ((A 6), .inl (cy 0, 50, .inl dP)), ((A 7), .inr (2, [.ref (A 8), .ref (A 10), .int dBc])), ((A 8), .inr (7, [.int 12, .ref (A 9)])), ((A 9), .inl (cy 0, 720, .inl v30)), ((A 10), .inr (7, [.int 60, .ref (A 11)])), ((A 11), .inl (cy 0, 60, .inl dO)), ((A 12), .inr (3, [.ref (A 13), .int dCc])), ((A 13), .inr (7, [.int 5, .ref (A 14)])), ((A 14), .inl (cy 0, 40, .inl dC)), ((A 15), .inr (7, [.int 5, .ref (A 16)])), ((A 16), .inl (cy 0, 5, .inl v31))] [(7, .int v29), (6, .int v26), (5, .int u1), (0, .ref (A 0)), (1, .int p0), (2, .int p1), (3, .ref (A 8)), (4, .int p2)] 151 []) → ∀ (n : Nat) (v29 : Int32) (v30 : XRow) (v31 : XRow), wp_X4_takeShare_o8_L108 p2 v26 k108_151 n v29 v30 v31 → Gx X 0 0 [((A 0), .inr (5, [.ref (A 1), .ref (A 3), .ref (A 5), .ref (A 7), .ref (A 12), .ref (A 15), .int dMc, .int dZ, .int dPc])), ((A 1), .inr (7, [.int 5, .ref (A 2)])), ((A 2), .inl (cy 0, 5, .inl dS)), ((A 3), .inr (7, [.int 7, .ref (A 4)])), ((A 4), .inl (cy 0, 42, .inl dM)), ((A 5), .inr (7, [.int 5, .ref (A 6)])), ((A 6), .inl (cy 0, 50, .inl dP)), ((A 7), .inr (2, [.ref (A 8), .ref (A 10), .int dBc])), ((A 8), .inr (7, [.int 12, .ref (A 9)])), ((A 9), .inl (cy 0, 720, .inl v30)), ((A 10), .inr (7, [.int 60, .ref (A 11)])), ((A 11), .inl (cy 0, 60, .inl dO)), ((A 12), .inr (3, [.ref (A 13), .int dCc])), ((A 13), .inr (7, [.int 5, .ref (A 14)])), ((A 14), .inl (cy 0, 40, .inl dC)), ((A 15), .inr (7, [.int 5, .ref (A 16)])), ((A 16), .inl (cy 0, 5, .inl v31))] [(7, .int v29), (6, .int v26), (5, .int u1), (0, .ref (A 0)), (1, .int p0), (2, .int p1), (3, .ref (A 8)), (4, .int p2)] 108 [] := by
    intro k108_151 hx151 n
    induction n with
    | zero => intro v29 v30 v31 hw; exact hw.elim
    | succ n ih =>
      intro v29 v30 v31 hw
      refine g_iload K 0 dX4_takeShare_108 rfl ?_
      refine g_iload K 1 dX4_takeShare_110 rfl ?_
      refine g_icmp_ge (tgt := 151) K dX4_takeShare_112 (by decide) (fun hc => ?_) (fun hc => ?_)
      · replace hw := hw.1 hc
        exact hx151 _ _ _ hw
      · replace hw := hw.2 hc
        refine g_aload_n K 3 dX4_takeShare_115 rfl ?_
        refine g_get K (C := RX4) (T := TX4) (N := 9) 0 5 in_X4_takeShare_o8_X4 (by decide +kernel) rfl rfl (by decide) rfl dX4_takeShare_116 ?_
        refine g_iconst (v := 0) K dX4_takeShare_119 rfl ?_
        refine g_callVr (st' := fun u32 => [.int u32]) K hR [.int 0] [] 15 rfl rfl (c_X6_columnOfGreatest X.2.1 (gxD X) cy sd (A 15) (A 16) 5 5 v31 0 hw) gX4_takeShare_X6_columnOfGreatest rfl yok_X6_columnOfGreatest rfl rfl (by decide) rfl (Nat.le_of_ble_eq_true rfl) dX4_takeShare_120 [15, 16] rfl (by decide) (fun _ => rfl) ⟨rfl, rfl⟩ (fun u32 hw => ?_)
        refine g_istore (lv' := [(8, .int u32), (7, .int v29), (6, .int v26), (5, .int u1), (0, .ref (A 0)), (1, .int p0), (2, .int p1), (3, .ref (A 8)), (4, .int p2)]) K dX4_takeShare_123 (by rw [En]; decide) rfl ?_
        refine g_aload_n K 7 dX4_takeShare_125 rfl ?_
        refine g_iload K 8 dX4_takeShare_126 rfl ?_
        refine g_iload K 0 dX4_takeShare_128 rfl ?_
        refine g_iconst (v := 1) K dX4_takeShare_130 rfl ?_
        refine g_callV (st' := fun u33 => []) (ws' := fun u33 => [((A 0), .inr (5, [.ref (A 1), .ref (A 3), .ref (A 5), .ref (A 7), .ref (A 12), .ref (A 15), .int dMc, .int dZ, .int dPc])), ((A 1), .inr (7, [.int 5, .ref (A 2)])), ((A 2), .inl (cy 0, 5, .inl dS)), ((A 3), .inr (7, [.int 7, .ref (A 4)])), ((A 4), .inl (cy 0, 42, .inl dM)), ((A 5), .inr (7, [.int 5, .ref (A 6)])), ((A 6), .inl (cy 0, 50, .inl dP)), ((A 7), .inr (2, [.ref (A 8), .ref (A 10), .int dBc])), ((A 8), .inr (7, [.int 12, .ref (A 9)])), ((A 9), .inl (cy 0, 720, .inl u33)), ((A 10), .inr (7, [.int 60, .ref (A 11)])), ((A 11), .inl (cy 0, 60, .inl dO)), ((A 12), .inr (3, [.ref (A 13), .int dCc])), ((A 13), .inr (7, [.int 5, .ref (A 14)])), ((A 14), .inl (cy 0, 40, .inl dC)), ((A 15), .inr (7, [.int 5, .ref (A 16)])), ((A 16), .inl (cy 0, 5, .inl v31))]) K hR [.int p2, .int u32, .int 1] [] 8 rfl rfl (c_X6_add X.2.1 (gxD X) cy sd (A 8) (A 9) 12 720 v30 p2 u32 1 hw) gX4_takeShare_X6_add rfl yok_X6_add rfl rfl (by decide) rfl (Nat.le_of_ble_eq_true rfl) dX4_takeShare_131 [8, 9] rfl (by decide) (fun _ => rfl) (fun _ => rfl) (fun _ => rfl) ⟨rfl, rfl⟩ (fun u33 hw => ?_)
        refine g_aload_n K 4 dX4_takeShare_134 rfl ?_
        refine g_get K (C := RX4) (T := TX4) (N := 9) 0 5 in_X4_takeShare_o8_X4 (by decide +kernel) rfl rfl (by decide) rfl dX4_takeShare_135 ?_
        refine g_iconst (v := 0) K dX4_takeShare_138 rfl ?_
        refine g_iload K 0 dX4_takeShare_139 rfl ?_
        refine g_iconst (v := (-1)) K dX4_takeShare_141 rfl ?_
        refine g_callV (st' := fun u34 => []) (ws' := fun u34 => [((A 0), .inr (5, [.ref (A 1), .ref (A 3), .ref (A 5), .ref (A 7), .ref (A 12), .ref (A 15), .int dMc, .int dZ, .int dPc])), ((A 1), .inr (7, [.int 5, .ref (A 2)])), ((A 2), .inl (cy 0, 5, .inl dS)), ((A 3), .inr (7, [.int 7, .ref (A 4)])), ((A 4), .inl (cy 0, 42, .inl dM)), ((A 5), .inr (7, [.int 5, .ref (A 6)])), ((A 6), .inl (cy 0, 50, .inl dP)), ((A 7), .inr (2, [.ref (A 8), .ref (A 10), .int dBc])), ((A 8), .inr (7, [.int 12, .ref (A 9)])), ((A 9), .inl (cy 0, 720, .inl u33)), ((A 10), .inr (7, [.int 60, .ref (A 11)])), ((A 11), .inl (cy 0, 60, .inl dO)), ((A 12), .inr (3, [.ref (A 13), .int dCc])), ((A 13), .inr (7, [.int 5, .ref (A 14)])), ((A 14), .inl (cy 0, 40, .inl dC)), ((A 15), .inr (7, [.int 5, .ref (A 16)])), ((A 16), .inl (cy 0, 5, .inl u34))]) K hR [.int 0, .int u32, .int (-1)] [] 15 rfl rfl (c_X6_put X.2.1 (gxD X) cy sd (A 15) (A 16) 5 5 v31 0 u32 (-1) hw) gX4_takeShare_X6_put rfl yok_X6_put rfl rfl (by decide) rfl (Nat.le_of_ble_eq_true rfl) dX4_takeShare_142 [15, 16] rfl (by decide) (fun _ => rfl) (fun _ => rfl) (fun _ => rfl) ⟨rfl, rfl⟩ (fun u34 hw => ?_)
        obtain ⟨x35, ex35⟩ : ∃ z : Int32, z = v29 + 1 := ⟨_, rfl⟩
        replace hw := hw x35 ex35
        refine g_iinc (v := x35) (lv' := [(7, .int x35), (8, .int u32), (6, .int v26), (5, .int u1), (0, .ref (A 0)), (1, .int p0), (2, .int p1), (3, .ref (A 8)), (4, .int p2)]) K 1 dX4_takeShare_145 rfl (by rw [ex35]; rfl) (by rw [En]; decide) rfl ?_
        refine g_goto (tgt := 108) K dX4_takeShare_148 (by decide) ?_
        refine gx_locals [0, 2, 3, 4, 5, 6, 7, 8] rfl ?_
        exact ih _ _ _ hw
  refine key _ (fun v36 v37 v38 hw => ?_) fl _ _ _ hw
  refine g_iconst (v := 0) K dX4_takeShare_151 rfl ?_
  refine g_istore (lv' := [(7, .int 0), (6, .int v26), (5, .int u1), (0, .ref (A 0)), (1, .int p0), (2, .int p1), (3, .ref (A 8)), (4, .int p2)]) K dX4_takeShare_152 (by rw [En]; decide) rfl ?_
  obtain ⟨fl, hw⟩ := hw
  have key : ∀ (k154_185 : Int32 → XRow → Prop), (∀ (v39 : Int32) (v40 : XRow), k154_185 v39 v40 → Gx X 0 0 [((A 0), .inr (5, [.ref (A 1), .ref (A 3), .ref (A 5), .ref (A 7), .ref (A 12), .ref (A 15), .int dMc, .int dZ, .int dPc])), ((A 1), .inr (7, [.int 5, .ref (A 2)])), ((A 2), .inl (cy 0, 5, .inl dS)), ((A 3), .inr (7, [.int 7, .ref (A 4)])), ((A 4), .inl (cy 0, 42, .inl dM)), ((A 5), .inr (7, [.int 5, .ref (A 6)])), ((A 6), .inl (cy 0, 50, .inl v40)), ((A 7), .inr (2, [.ref (A 8), .ref (A 10), .int dBc])), ((A 8), .inr (7, [.int 12, .ref (A 9)])), ((A 9), .inl (cy 0, 720, .inl v37)), ((A 10), .inr (7, [.int 60, .ref (A 11)])), ((A 11), .inl (cy 0, 60, .inl dO)), ((A 12), .inr (3, [.ref (A 13), .int dCc])), ((A 13), .inr (7, [.int 5, .ref (A 14)])), ((A 14), .inl (cy 0, 40, .inl dC)), ((A 15), .inr (7, [.int 5, .ref (A 16)])), ((A 16), .inl (cy 0, 5, .inl v38))] [(7, .int v39), (6, .int v26), (5, .int u1), (0, .ref (A 0)), (1, .int p0), (2, .int p1), (3, .ref (A 8)), (4, .int p2)] 185 []) → ∀ (n : Nat) (v39 : Int32) (v40 : XRow), wp_X4_takeShare_o8_L154 p0 p2 v37 k154_185 n v39 v40 → Gx X 0 0 [((A 0), .inr (5, [.ref (A 1), .ref (A 3), .ref (A 5), .ref (A 7), .ref (A 12), .ref (A 15), .int dMc, .int dZ, .int dPc])), ((A 1), .inr (7, [.int 5, .ref (A 2)])), ((A 2), .inl (cy 0, 5, .inl dS)), ((A 3), .inr (7, [.int 7, .ref (A 4)])), ((A 4), .inl (cy 0, 42, .inl dM)), ((A 5), .inr (7, [.int 5, .ref (A 6)])), ((A 6), .inl (cy 0, 50, .inl v40)), ((A 7), .inr (2, [.ref (A 8), .ref (A 10), .int dBc])), ((A 8), .inr (7, [.int 12, .ref (A 9)])), ((A 9), .inl (cy 0, 720, .inl v37)), ((A 10), .inr (7, [.int 60, .ref (A 11)])), ((A 11), .inl (cy 0, 60, .inl dO)), ((A 12), .inr (3, [.ref (A 13), .int dCc])), ((A 13), .inr (7, [.int 5, .ref (A 14)])), ((A 14), .inl (cy 0, 40, .inl dC)), ((A 15), .inr (7, [.int 5, .ref (A 16)])), ((A 16), .inl (cy 0, 5, .inl v38))] [(7, .int v39), (6, .int v26), (5, .int u1), (0, .ref (A 0)), (1, .int p0), (2, .int p1), (3, .ref (A 8)), (4, .int p2)] 154 [] := by
    intro k154_185 hx185 n
    induction n with
    | zero => intro v39 v40 hw; exact hw.elim
    | succ n ih =>
      intro v39 v40 hw
      refine g_iload K 0 dX4_takeShare_154 rfl ?_
      refine g_iconst (v := 5) K dX4_takeShare_156 rfl ?_
      refine g_icmp_ge (tgt := 185) K dX4_takeShare_157 (by decide) (fun hc => ?_) (fun hc => ?_)
      · replace hw := hw.1 hc
        exact hx185 _ _ hw
      · replace hw := hw.2 hc
        refine g_aload_n K 3 dX4_takeShare_160 rfl ?_
        refine g_get K (C := RX4) (T := TX4) (N := 9) 0 2 in_X4_takeShare_o8_X4 (by decide +kernel) rfl rfl (by decide) rfl dX4_takeShare_161 ?_
        refine g_iload_n K 4 dX4_takeShare_164 rfl ?_
        refine g_iload K 0 dX4_takeShare_165 rfl ?_
        refine g_aload_n K 6 dX4_takeShare_167 rfl ?_
        refine g_iload K 7 dX4_takeShare_168 rfl ?_
        refine g_iload K 0 dX4_takeShare_170 rfl ?_
        refine g_callVr (st' := fun u41 => [.int u41, .int v39, .int p0, .ref (A 5)]) K hR [.int p2, .int v39] [.int v39, .int p0, .ref (A 5)] 8 rfl rfl (c_X6_get X.2.1 (gxD X) cy sd (A 8) (A 9) 12 720 v37 p2 v39 hw) gX4_takeShare_X6_get rfl yok_X6_get rfl rfl (by decide) rfl (Nat.le_of_ble_eq_true rfl) dX4_takeShare_172 [8, 9] rfl (by decide) (fun _ => rfl) ⟨rfl, rfl⟩ (fun u41 hw => ?_)
        refine g_ineg K dX4_takeShare_175 ?_
        refine g_callV (st' := fun u42 => []) (ws' := fun u42 => [((A 0), .inr (5, [.ref (A 1), .ref (A 3), .ref (A 5), .ref (A 7), .ref (A 12), .ref (A 15), .int dMc, .int dZ, .int dPc])), ((A 1), .inr (7, [.int 5, .ref (A 2)])), ((A 2), .inl (cy 0, 5, .inl dS)), ((A 3), .inr (7, [.int 7, .ref (A 4)])), ((A 4), .inl (cy 0, 42, .inl dM)), ((A 5), .inr (7, [.int 5, .ref (A 6)])), ((A 6), .inl (cy 0, 50, .inl u42)), ((A 7), .inr (2, [.ref (A 8), .ref (A 10), .int dBc])), ((A 8), .inr (7, [.int 12, .ref (A 9)])), ((A 9), .inl (cy 0, 720, .inl v37)), ((A 10), .inr (7, [.int 60, .ref (A 11)])), ((A 11), .inl (cy 0, 60, .inl dO)), ((A 12), .inr (3, [.ref (A 13), .int dCc])), ((A 13), .inr (7, [.int 5, .ref (A 14)])), ((A 14), .inl (cy 0, 40, .inl dC)), ((A 15), .inr (7, [.int 5, .ref (A 16)])), ((A 16), .inl (cy 0, 5, .inl v38))]) K hR [.int p0, .int v39, .int (-u41)] [] 5 rfl rfl (c_X6_add X.2.1 (gxD X) cy sd (A 5) (A 6) 5 50 v40 p0 v39 (-u41) hw) gX4_takeShare_X6_add rfl yok_X6_add rfl rfl (by decide) rfl (Nat.le_of_ble_eq_true rfl) dX4_takeShare_176 [5, 6] rfl (by decide) (fun _ => rfl) (fun _ => rfl) (fun _ => rfl) ⟨rfl, rfl⟩ (fun u42 hw => ?_)
        obtain ⟨x43, ex43⟩ : ∃ z : Int32, z = v39 + 1 := ⟨_, rfl⟩
        replace hw := hw x43 ex43
        refine g_iinc (v := x43) (lv' := [(7, .int x43), (6, .int v26), (5, .int u1), (0, .ref (A 0)), (1, .int p0), (2, .int p1), (3, .ref (A 8)), (4, .int p2)]) K 0 dX4_takeShare_179 rfl (by rw [ex43]; rfl) (by rw [En]; decide) rfl ?_
        refine g_goto (tgt := 154) K dX4_takeShare_182 (by decide) ?_
        exact ih _ _ hw
  refine key _ (fun v44 v45 hw => ?_) fl _ _ hw
  exact g_vret K E Er (v45, v37, v38) hw rfl rfl (Nat.le_refl _) (Nat.le_refl _) dX4_takeShare_185

def wp_X4_sampledPurity_L6 (dN : XRow) (p0 : Int32) (p1 : Int32) (k6_36 : Int32 → Int32 → Prop) : Nat → Int32 → Int32 → Prop
  | 0, _, _ => False
  | fu + 1, v1, v2 => (p1 ≤ v1 → (k6_36 v1 v2)) ∧ (¬ p1 ≤ v1 → (wp_X6_get 12 720 dN p0 v1 (fun u3 : Int32 => ∀ x4 : Int32, x4 = v2 + u3 → (∀ x5 : Int32, x5 = v1 + 1 → (wp_X4_sampledPurity_L6 dN p0 p1 k6_36 fu x5 x4)))))
def wp_X4_sampledPurity_L66 (p2 : Int32) (v7 : Int32) (x9 : Int32) (u10 : Int32) (k66_137 : Int32 → Int32 → Int32 → Prop) : Nat → Int32 → Int32 → Int32 → Prop
  | 0, _, _, _ => False
  | fu + 1, v11, v12, v13 => (u10 ≤ v11 → (k66_137 v11 v12 v13)) ∧ (¬ u10 ≤ v11 → (∀ x14 : Int32, x14 = (v13 * 1103515245) + 12345 → ((p2 ≤ 0 → (wp_X8_isWithin 0 v7 (x9 - 1) (fun u15 : Bool => (u15 = true → (∀ x18 : Int32, x18 = v12 + 1 → (∀ x19 : Int32, x19 = v11 + 1 → (wp_X4_sampledPurity_L66 p2 v7 x9 u10 k66_137 fu x19 x18 x14)))) ∧ (u15 = false → (∀ x16 : Int32, x16 = v12 + 0 → (∀ x17 : Int32, x17 = v11 + 1 → (wp_X4_sampledPurity_L66 p2 v7 x9 u10 k66_137 fu x17 x16 x14))))))) ∧ (¬ p2 ≤ 0 → ((¬ p2 = 0) ∧ (∀ x20 : Int32, x20 = (xUshr x14 16) - (xUshr x14 16) / p2 * p2 → (wp_X8_isWithin x20 v7 (x9 - 1) (fun u21 : Bool => (u21 = true → (∀ x24 : Int32, x24 = v12 + 1 → (∀ x25 : Int32, x25 = v11 + 1 → (wp_X4_sampledPurity_L66 p2 v7 x9 u10 k66_137 fu x25 x24 x14)))) ∧ (u21 = false → (∀ x22 : Int32, x22 = v12 + 0 → (∀ x23 : Int32, x23 = v11 + 1 → (wp_X4_sampledPurity_L66 p2 v7 x9 u10 k66_137 fu x23 x22 x14))))))))))))
def wp_X4_sampledPurity (dS : XRow) (dN : XRow) (dZ : Int32) (p0 : Int32) (p1 : Int32) (p2 : Int32) (post : (Int32 × Int32) → Prop) : Prop := ∃ fl, wp_X4_sampledPurity_L6 dN p0 p1 (fun (v6 : Int32) (v7 : Int32) => wp_X6_get 12 720 dN p0 p1 (fun u8 : Int32 => ∀ x9 : Int32, x9 = v7 + u8 → (wp_X4_setting dS 3 (fun u10 : Int32 => ∃ fl, wp_X4_sampledPurity_L66 p2 v7 x9 u10 (fun (v26 : Int32) (v27 : Int32) (v28 : Int32) => wp_X8_perThousand v27 u10 (fun u29 : Int32 => post (u29, v28))) fl 0 0 dZ)))) fl 0 0
theorem in_X4_sampledPurity_X0 : ∀ w ∈ u_ws RX0 TX0 3, w ∈ wsX4_sampledPurity := by decide +kernel
theorem in_X4_sampledPurity_X4 : ∀ w ∈ u_ws RX4 TX4 9, w ∈ wsX4_sampledPurity := by decide +kernel
set_option maxRecDepth 100000 in
set_option maxHeartbeats 4000000 in
theorem c_X4_sampledPurity (l : Launch) (D : va_G) (cy : Nat → ClassId) (sd : xSd) (A : Nat → Nat) (dS : XRow) (dM : XRow) (dP : XRow) (dN : XRow) (dBc : Int32) (dO : XRow) (dC : XRow) (dCc : Int32) (dR : XRow) (dMc : Int32) (dZ : Int32) (dPc : Int32) (p0 : Int32) (p1 : Int32) (p2 : Int32) {post : (Int32 × Int32) → Prop} (hw : wp_X4_sampledPurity dS dN dZ p0 p1 p2 post) : Ctr l D (xTys cy) sd yX4_sampledPurity wsX4_sampledPurity ({ frames := 2, cells := 0, slots := 0, locals := 44 } : Room) [.ref (A 0), .int p0, .int p1, .int p2] (fun u : Int32 × Int32 => some (.int u.1)) [((A 0), .inr (5, [.ref (A 1), .ref (A 3), .ref (A 5), .ref (A 7), .ref (A 12), .ref (A 15), .int dMc, .int dZ, .int dPc])), ((A 1), .inr (7, [.int 5, .ref (A 2)])), ((A 2), .inl (cy 0, 5, .inl dS)), ((A 3), .inr (7, [.int 7, .ref (A 4)])), ((A 4), .inl (cy 0, 42, .inl dM)), ((A 5), .inr (7, [.int 5, .ref (A 6)])), ((A 6), .inl (cy 0, 50, .inl dP)), ((A 7), .inr (2, [.ref (A 8), .ref (A 10), .int dBc])), ((A 8), .inr (7, [.int 12, .ref (A 9)])), ((A 9), .inl (cy 0, 720, .inl dN)), ((A 10), .inr (7, [.int 60, .ref (A 11)])), ((A 11), .inl (cy 0, 60, .inl dO)), ((A 12), .inr (3, [.ref (A 13), .int dCc])), ((A 13), .inr (7, [.int 5, .ref (A 14)])), ((A 14), .inl (cy 0, 40, .inl dC)), ((A 15), .inr (7, [.int 5, .ref (A 16)])), ((A 16), .inl (cy 0, 5, .inl dR))] (fun u => [((A 0), .inr (5, [.ref (A 1), .ref (A 3), .ref (A 5), .ref (A 7), .ref (A 12), .ref (A 15), .int dMc, .int u.2, .int dPc])), ((A 1), .inr (7, [.int 5, .ref (A 2)])), ((A 2), .inl (cy 0, 5, .inl dS)), ((A 3), .inr (7, [.int 7, .ref (A 4)])), ((A 4), .inl (cy 0, 42, .inl dM)), ((A 5), .inr (7, [.int 5, .ref (A 6)])), ((A 6), .inl (cy 0, 50, .inl dP)), ((A 7), .inr (2, [.ref (A 8), .ref (A 10), .int dBc])), ((A 8), .inr (7, [.int 12, .ref (A 9)])), ((A 9), .inl (cy 0, 720, .inl dN)), ((A 10), .inr (7, [.int 60, .ref (A 11)])), ((A 11), .inl (cy 0, 60, .inl dO)), ((A 12), .inr (3, [.ref (A 13), .int dCc])), ((A 13), .inr (7, [.int 5, .ref (A 14)])), ((A 14), .inl (cy 0, 40, .inl dC)), ((A 15), .inr (7, [.int 5, .ref (A 16)])), ((A 16), .inl (cy 0, 5, .inl dR))]) post := by
  refine Ctr.of (cc := cX4_sampledPurity) (maxL := 10) (ret := (some .int)) (lv0 := [(0, .ref (A 0)), (1, .int p0), (2, .int p1), (3, .int p2)]) (by decide) rfl (Nat.le_of_ble_eq_true rfl) rfl ?_
  intro X El hR Er Enm ED E En K
  have K : Cx X cX4_sampledPurity RX4 wsX4_sampledPurity (xTys cy) sd := K
  have E : X.2.2.2.2.2.2.2.2.2.2.1 = xMQ X (fun u : Int32 × Int32 => some (.int u.1)) post (fun u => [((A 0), .inr (5, [.ref (A 1), .ref (A 3), .ref (A 5), .ref (A 7), .ref (A 12), .ref (A 15), .int dMc, .int u.2, .int dPc])), ((A 1), .inr (7, [.int 5, .ref (A 2)])), ((A 2), .inl (cy 0, 5, .inl dS)), ((A 3), .inr (7, [.int 7, .ref (A 4)])), ((A 4), .inl (cy 0, 42, .inl dM)), ((A 5), .inr (7, [.int 5, .ref (A 6)])), ((A 6), .inl (cy 0, 50, .inl dP)), ((A 7), .inr (2, [.ref (A 8), .ref (A 10), .int dBc])), ((A 8), .inr (7, [.int 12, .ref (A 9)])), ((A 9), .inl (cy 0, 720, .inl dN)), ((A 10), .inr (7, [.int 60, .ref (A 11)])), ((A 11), .inl (cy 0, 60, .inl dO)), ((A 12), .inr (3, [.ref (A 13), .int dCc])), ((A 13), .inr (7, [.int 5, .ref (A 14)])), ((A 14), .inl (cy 0, 40, .inl dC)), ((A 15), .inr (7, [.int 5, .ref (A 16)])), ((A 16), .inl (cy 0, 5, .inl dR))]) 0 0 := E
  unfold wp_X4_sampledPurity at hw
  refine g_iconst (v := 0) K dX4_sampledPurity_0 rfl ?_
  refine g_istore (lv' := [(4, .int 0), (0, .ref (A 0)), (1, .int p0), (2, .int p1), (3, .int p2)]) K dX4_sampledPurity_1 (by rw [En]; decide) rfl ?_
  refine g_iconst (v := 0) K dX4_sampledPurity_3 rfl ?_
  refine g_istore (lv' := [(5, .int 0), (4, .int 0), (0, .ref (A 0)), (1, .int p0), (2, .int p1), (3, .int p2)]) K dX4_sampledPurity_4 (by rw [En]; decide) rfl ?_
  obtain ⟨fl, hw⟩ := hw
  have key : ∀ (k6_36 : Int32 → Int32 → Prop), (∀ (v1 : Int32) (v2 : Int32), k6_36 v1 v2 → Gx X 0 0 [((A 0), .inr (5, [.ref (A 1), .ref (A 3), .ref (A 5), .ref (A 7), .ref (A 12), .ref (A 15), .int dMc, .int dZ, .int dPc])), ((A 1), .inr (7, [.int 5, .ref (A 2)])), ((A 2), .inl (cy 0, 5, .inl dS)), ((A 3), .inr (7, [.int 7, .ref (A 4)])), ((A 4), .inl (cy 0, 42, .inl dM)), ((A 5), .inr (7, [.int 5, .ref (A 6)])), ((A 6), .inl (cy 0, 50, .inl dP)), ((A 7), .inr (2, [.ref (A 8), .ref (A 10), .int dBc])), ((A 8), .inr (7, [.int 12, .ref (A 9)])), ((A 9), .inl (cy 0, 720, .inl dN)), ((A 10), .inr (7, [.int 60, .ref (A 11)])), ((A 11), .inl (cy 0, 60, .inl dO)), ((A 12), .inr (3, [.ref (A 13), .int dCc])), ((A 13), .inr (7, [.int 5, .ref (A 14)])), ((A 14), .inl (cy 0, 40, .inl dC)), ((A 15), .inr (7, [.int 5, .ref (A 16)])), ((A 16), .inl (cy 0, 5, .inl dR))] [(5, .int v1), (4, .int v2), (0, .ref (A 0)), (1, .int p0), (2, .int p1), (3, .int p2)] 36 []) → ∀ (n : Nat) (v1 : Int32) (v2 : Int32), wp_X4_sampledPurity_L6 dN p0 p1 k6_36 n v1 v2 → Gx X 0 0 [((A 0), .inr (5, [.ref (A 1), .ref (A 3), .ref (A 5), .ref (A 7), .ref (A 12), .ref (A 15), .int dMc, .int dZ, .int dPc])), ((A 1), .inr (7, [.int 5, .ref (A 2)])), ((A 2), .inl (cy 0, 5, .inl dS)), ((A 3), .inr (7, [.int 7, .ref (A 4)])), ((A 4), .inl (cy 0, 42, .inl dM)), ((A 5), .inr (7, [.int 5, .ref (A 6)])), ((A 6), .inl (cy 0, 50, .inl dP)), ((A 7), .inr (2, [.ref (A 8), .ref (A 10), .int dBc])), ((A 8), .inr (7, [.int 12, .ref (A 9)])), ((A 9), .inl (cy 0, 720, .inl dN)), ((A 10), .inr (7, [.int 60, .ref (A 11)])), ((A 11), .inl (cy 0, 60, .inl dO)), ((A 12), .inr (3, [.ref (A 13), .int dCc])), ((A 13), .inr (7, [.int 5, .ref (A 14)])), ((A 14), .inl (cy 0, 40, .inl dC)), ((A 15), .inr (7, [.int 5, .ref (A 16)])), ((A 16), .inl (cy 0, 5, .inl dR))] [(5, .int v1), (4, .int v2), (0, .ref (A 0)), (1, .int p0), (2, .int p1), (3, .int p2)] 6 [] := by
    intro k6_36 hx36 n
    induction n with
    | zero => intro v1 v2 hw; exact hw.elim
    | succ n ih =>
      intro v1 v2 hw
      refine g_iload K 0 dX4_sampledPurity_6 rfl ?_
      refine g_iload_n K 4 dX4_sampledPurity_8 rfl ?_
      refine g_icmp_ge (tgt := 36) K dX4_sampledPurity_9 (by decide) (fun hc => ?_) (fun hc => ?_)
      · replace hw := hw.1 hc
        exact hx36 _ _ hw
      · replace hw := hw.2 hc
        refine g_iload K 1 dX4_sampledPurity_12 rfl ?_
        refine g_aload_n K 2 dX4_sampledPurity_14 rfl ?_
        refine g_get K (C := RX4) (T := TX4) (N := 9) 0 3 in_X4_sampledPurity_X4 (by decide +kernel) rfl rfl (by decide) rfl dX4_sampledPurity_15 ?_
        refine g_get K (C := RX0) (T := TX0) (N := 3) 7 0 in_X4_sampledPurity_X0 (by decide +kernel) rfl rfl (by decide) rfl dX4_sampledPurity_18 ?_
        refine g_iload_n K 3 dX4_sampledPurity_21 rfl ?_
        refine g_iload K 0 dX4_sampledPurity_22 rfl ?_
        refine g_callVr (st' := fun u3 => [.int u3, .int v2]) K hR [.int p0, .int v1] [.int v2] 8 rfl rfl (c_X6_get X.2.1 (gxD X) cy sd (A 8) (A 9) 12 720 dN p0 v1 hw) gX4_sampledPurity_X6_get rfl yok_X6_get rfl rfl (by decide) rfl (Nat.le_of_ble_eq_true rfl) dX4_sampledPurity_24 [8, 9] rfl (by decide) (fun _ => rfl) ⟨rfl, rfl⟩ (fun u3 hw => ?_)
        refine g_iadd K dX4_sampledPurity_27 ?_
        refine g_topi (fun x4 ex4 => ?_)
        replace hw := hw x4 ex4
        refine g_istore (lv' := [(4, .int x4), (5, .int v1), (0, .ref (A 0)), (1, .int p0), (2, .int p1), (3, .int p2)]) K dX4_sampledPurity_28 (by rw [En]; decide) rfl ?_
        obtain ⟨x5, ex5⟩ : ∃ z : Int32, z = v1 + 1 := ⟨_, rfl⟩
        replace hw := hw x5 ex5
        refine g_iinc (v := x5) (lv' := [(5, .int x5), (4, .int x4), (0, .ref (A 0)), (1, .int p0), (2, .int p1), (3, .int p2)]) K 1 dX4_sampledPurity_30 rfl (by rw [ex5]; rfl) (by rw [En]; decide) rfl ?_
        refine g_goto (tgt := 6) K dX4_sampledPurity_33 (by decide) ?_
        exact ih _ _ hw
  refine key _ (fun v6 v7 hw => ?_) fl _ _ hw
  refine g_iload K 1 dX4_sampledPurity_36 rfl ?_
  refine g_aload_n K 2 dX4_sampledPurity_38 rfl ?_
  refine g_get K (C := RX4) (T := TX4) (N := 9) 0 3 in_X4_sampledPurity_X4 (by decide +kernel) rfl rfl (by decide) rfl dX4_sampledPurity_39 ?_
  refine g_get K (C := RX0) (T := TX0) (N := 3) 7 0 in_X4_sampledPurity_X0 (by decide +kernel) rfl rfl (by decide) rfl dX4_sampledPurity_42 ?_
  refine g_iload_n K 3 dX4_sampledPurity_45 rfl ?_
  refine g_iload_n K 4 dX4_sampledPurity_46 rfl ?_
  refine g_callVr (st' := fun u8 => [.int u8, .int v7]) K hR [.int p0, .int p1] [.int v7] 8 rfl rfl (c_X6_get X.2.1 (gxD X) cy sd (A 8) (A 9) 12 720 dN p0 p1 hw) gX4_sampledPurity_X6_get rfl yok_X6_get rfl rfl (by decide) rfl (Nat.le_of_ble_eq_true rfl) dX4_sampledPurity_47 [8, 9] rfl (by decide) (fun _ => rfl) ⟨rfl, rfl⟩ (fun u8 hw => ?_)
  refine g_iadd K dX4_sampledPurity_50 ?_
  refine g_topi (fun x9 ex9 => ?_)
  replace hw := hw x9 ex9
  refine g_istore (lv' := [(5, .int x9), (4, .int v7), (0, .ref (A 0)), (1, .int p0), (2, .int p1), (3, .int p2)]) K dX4_sampledPurity_51 (by rw [En]; decide) rfl ?_
  refine g_aload_n K 2 dX4_sampledPurity_53 rfl ?_
  refine g_iconst (v := 3) K dX4_sampledPurity_54 rfl ?_
  refine g_callVr (st' := fun u10 => [.int u10]) K hR [.int 3] [] 0 rfl rfl (c_X4_setting X.2.1 (gxD X) cy sd A dS dM dP dN dBc dO dC dCc dR dMc dZ dPc 3 hw) gX4_sampledPurity_X4_setting rfl yok_X4_setting rfl rfl (by decide) rfl (Nat.le_of_ble_eq_true rfl) dX4_sampledPurity_55 [0, 1, 2, 3, 4, 5, 6, 7, 8, 9, 10, 11, 12, 13, 14, 15, 16] rfl (by decide) (fun _ => rfl) ⟨rfl, rfl⟩ (fun u10 hw => ?_)
  refine g_istore (lv' := [(6, .int u10), (5, .int x9), (4, .int v7), (0, .ref (A 0)), (1, .int p0), (2, .int p1), (3, .int p2)]) K dX4_sampledPurity_58 (by rw [En]; decide) rfl ?_
  refine g_iconst (v := 0) K dX4_sampledPurity_60 rfl ?_
  refine g_istore (lv' := [(7, .int 0), (6, .int u10), (5, .int x9), (4, .int v7), (0, .ref (A 0)), (1, .int p0), (2, .int p1), (3, .int p2)]) K dX4_sampledPurity_61 (by rw [En]; decide) rfl ?_
  refine g_iconst (v := 0) K dX4_sampledPurity_63 rfl ?_
  refine g_istore (lv' := [(8, .int 0), (7, .int 0), (6, .int u10), (5, .int x9), (4, .int v7), (0, .ref (A 0)), (1, .int p0), (2, .int p1), (3, .int p2)]) K dX4_sampledPurity_64 (by rw [En]; decide) rfl ?_
  obtain ⟨fl, hw⟩ := hw
  have key : ∀ (k66_137 : Int32 → Int32 → Int32 → Prop), (∀ (v11 : Int32) (v12 : Int32) (v13 : Int32), k66_137 v11 v12 v13 → Gx X 0 0 [((A 0), .inr (5, [.ref (A 1), .ref (A 3), .ref (A 5), .ref (A 7), .ref (A 12), .ref (A 15), .int dMc, .int v13, .int dPc])), ((A 1), .inr (7, [.int 5, .ref (A 2)])), ((A 2), .inl (cy 0, 5, .inl dS)), ((A 3), .inr (7, [.int 7, .ref (A 4)])), ((A 4), .inl (cy 0, 42, .inl dM)), ((A 5), .inr (7, [.int 5, .ref (A 6)])), ((A 6), .inl (cy 0, 50, .inl dP)), ((A 7), .inr (2, [.ref (A 8), .ref (A 10), .int dBc])), ((A 8), .inr (7, [.int 12, .ref (A 9)])), ((A 9), .inl (cy 0, 720, .inl dN)), ((A 10), .inr (7, [.int 60, .ref (A 11)])), ((A 11), .inl (cy 0, 60, .inl dO)), ((A 12), .inr (3, [.ref (A 13), .int dCc])), ((A 13), .inr (7, [.int 5, .ref (A 14)])), ((A 14), .inl (cy 0, 40, .inl dC)), ((A 15), .inr (7, [.int 5, .ref (A 16)])), ((A 16), .inl (cy 0, 5, .inl dR))] [(8, .int v11), (7, .int v12), (6, .int u10), (5, .int x9), (4, .int v7), (0, .ref (A 0)), (1, .int p0), (2, .int p1), (3, .int p2)] 137 []) → ∀ (n : Nat) (v11 : Int32) (v12 : Int32) (v13 : Int32), wp_X4_sampledPurity_L66 p2 v7 x9 u10 k66_137 n v11 v12 v13 → Gx X 0 0 [((A 0), .inr (5, [.ref (A 1), .ref (A 3), .ref (A 5), .ref (A 7), .ref (A 12), .ref (A 15), .int dMc, .int v13, .int dPc])), ((A 1), .inr (7, [.int 5, .ref (A 2)])), ((A 2), .inl (cy 0, 5, .inl dS)), ((A 3), .inr (7, [.int 7, .ref (A 4)])), ((A 4), .inl (cy 0, 42, .inl dM)), ((A 5), .inr (7, [.int 5, .ref (A 6)])), ((A 6), .inl (cy 0, 50, .inl dP)), ((A 7), .inr (2, [.ref (A 8), .ref (A 10), .int dBc])), ((A 8), .inr (7, [.int 12, .ref (A 9)])), ((A 9), .inl (cy 0, 720, .inl dN)), ((A 10), .inr (7, [.int 60, .ref (A 11)])), ((A 11), .inl (cy 0, 60, .inl dO)), ((A 12), .inr (3, [.ref (A 13), .int dCc])), ((A 13), .inr (7, [.int 5, .ref (A 14)])), ((A 14), .inl (cy 0, 40, .inl dC)), ((A 15), .inr (7, [.int 5, .ref (A 16)])), ((A 16), .inl (cy 0, 5, .inl dR))] [(8, .int v11), (7, .int v12), (6, .int u10), (5, .int x9), (4, .int v7), (0, .ref (A 0)), (1, .int p0), (2, .int p1), (3, .int p2)] 66 [] := by
    intro k66_137 hx137 n
    induction n with
    | zero => intro v11 v12 v13 hw; exact hw.elim
    | succ n ih =>
      intro v11 v12 v13 hw
      refine g_iload K 0 dX4_sampledPurity_66 rfl ?_
      refine g_iload K 2 dX4_sampledPurity_68 rfl ?_
      refine g_icmp_ge (tgt := 137) K dX4_sampledPurity_70 (by decide) (fun hc => ?_) (fun hc => ?_)
      · replace hw := hw.1 hc
        exact hx137 _ _ _ hw
      · replace hw := hw.2 hc
        refine g_aload_n K 5 dX4_sampledPurity_73 rfl ?_
        refine g_aload_n K 5 dX4_sampledPurity_74 rfl ?_
        refine g_get K (C := RX4) (T := TX4) (N := 9) 0 7 in_X4_sampledPurity_X4 (by decide +kernel) rfl rfl (by decide) rfl dX4_sampledPurity_75 ?_
        refine g_ldcI (v := 1103515245) K (by decide +kernel) dX4_sampledPurity_78 ?_
        refine g_imul K dX4_sampledPurity_80 ?_
        refine g_sipush (v := 12345) K dX4_sampledPurity_81 rfl ?_
        refine g_iadd K dX4_sampledPurity_84 ?_
        refine g_topi (fun x14 ex14 => ?_)
        replace hw := hw x14 ex14
        refine g_put (ty := .int) (ws' := [((A 0), .inr (5, [.ref (A 1), .ref (A 3), .ref (A 5), .ref (A 7), .ref (A 12), .ref (A 15), .int dMc, .int x14, .int dPc])), ((A 1), .inr (7, [.int 5, .ref (A 2)])), ((A 2), .inl (cy 0, 5, .inl dS)), ((A 3), .inr (7, [.int 7, .ref (A 4)])), ((A 4), .inl (cy 0, 42, .inl dM)), ((A 5), .inr (7, [.int 5, .ref (A 6)])), ((A 6), .inl (cy 0, 50, .inl dP)), ((A 7), .inr (2, [.ref (A 8), .ref (A 10), .int dBc])), ((A 8), .inr (7, [.int 12, .ref (A 9)])), ((A 9), .inl (cy 0, 720, .inl dN)), ((A 10), .inr (7, [.int 60, .ref (A 11)])), ((A 11), .inl (cy 0, 60, .inl dO)), ((A 12), .inr (3, [.ref (A 13), .int dCc])), ((A 13), .inr (7, [.int 5, .ref (A 14)])), ((A 14), .inl (cy 0, 40, .inl dC)), ((A 15), .inr (7, [.int 5, .ref (A 16)])), ((A 16), .inl (cy 0, 5, .inl dR))]) K (C := RX4) (T := TX4) (N := 9) 0 7 in_X4_sampledPurity_X4 tyX4 tyX4_ok nmX4 (by decide +kernel) rfl rfl (by decide) rfl (by decide +kernel) rfl rfl (Nat.le_of_ble_eq_true rfl) rfl dX4_sampledPurity_85 ?_
        refine g_iload_n K 8 dX4_sampledPurity_88 rfl ?_
        refine g_if_le (tgt := 104) K dX4_sampledPurity_89 (by decide) (fun hc => ?_) (fun hc => ?_)
        · replace hw := hw.1 hc
          refine g_iconst (v := 0) K dX4_sampledPurity_104 rfl ?_
          refine g_istore (lv' := [(9, .int 0), (8, .int v11), (7, .int v12), (6, .int u10), (5, .int x9), (4, .int v7), (0, .ref (A 0)), (1, .int p0), (2, .int p1), (3, .int p2)]) K dX4_sampledPurity_105 (by rw [En]; decide) rfl ?_
          refine g_iload K 2 dX4_sampledPurity_107 rfl ?_
          refine g_iload K 0 dX4_sampledPurity_109 rfl ?_
          refine g_iload K 5 dX4_sampledPurity_111 rfl ?_
          refine g_iload K 4 dX4_sampledPurity_113 rfl ?_
          refine g_iconst (v := 1) K dX4_sampledPurity_115 rfl ?_
          refine g_isub K dX4_sampledPurity_116 ?_
          refine g_callSNr (st' := fun u15 => [.int (bI u15), .int v12]) K hR [.int 0, .int v7, .int (x9 - 1)] [.int v12] RX8 (by decide +kernel) (by decide +kernel) (by decide +kernel) (c_X8_isWithin X.2.1 (gxD X) cy sd 0 v7 (x9 - 1) hw) gX4_sampledPurity_X8_isWithin_n97 rfl yok_X8_isWithin rfl (by decide) rfl (Nat.le_of_ble_eq_true rfl) dX4_sampledPurity_117 [] rfl (by decide) (fun _ => rfl) ⟨rfl, rfl⟩ (fun u15 hw => ?_)
          refine g_ifb_eq (tgt := 127) K dX4_sampledPurity_120 (by decide) (fun hc => ?_) (fun hc => ?_)
          · replace hw := hw.2 hc
            refine g_iconst (v := 0) K dX4_sampledPurity_127 rfl ?_
            refine g_iadd K dX4_sampledPurity_128 ?_
            refine g_topi (fun x16 ex16 => ?_)
            replace hw := hw x16 ex16
            refine g_istore (lv' := [(7, .int x16), (9, .int 0), (8, .int v11), (6, .int u10), (5, .int x9), (4, .int v7), (0, .ref (A 0)), (1, .int p0), (2, .int p1), (3, .int p2)]) K dX4_sampledPurity_129 (by rw [En]; decide) rfl ?_
            obtain ⟨x17, ex17⟩ : ∃ z : Int32, z = v11 + 1 := ⟨_, rfl⟩
            replace hw := hw x17 ex17
            refine g_iinc (v := x17) (lv' := [(8, .int x17), (7, .int x16), (9, .int 0), (6, .int u10), (5, .int x9), (4, .int v7), (0, .ref (A 0)), (1, .int p0), (2, .int p1), (3, .int p2)]) K 2 dX4_sampledPurity_131 rfl (by rw [ex17]; rfl) (by rw [En]; decide) rfl ?_
            refine g_goto (tgt := 66) K dX4_sampledPurity_134 (by decide) ?_
            refine gx_locals [0, 1, 3, 4, 5, 6, 7, 8, 9] rfl ?_
            exact ih _ _ _ hw
          · replace hw := hw.1 hc
            refine g_iconst (v := 1) K dX4_sampledPurity_123 rfl ?_
            refine g_goto (tgt := 128) K dX4_sampledPurity_124 (by decide) ?_
            refine g_iadd K dX4_sampledPurity_128 ?_
            refine g_topi (fun x18 ex18 => ?_)
            replace hw := hw x18 ex18
            refine g_istore (lv' := [(7, .int x18), (9, .int 0), (8, .int v11), (6, .int u10), (5, .int x9), (4, .int v7), (0, .ref (A 0)), (1, .int p0), (2, .int p1), (3, .int p2)]) K dX4_sampledPurity_129 (by rw [En]; decide) rfl ?_
            obtain ⟨x19, ex19⟩ : ∃ z : Int32, z = v11 + 1 := ⟨_, rfl⟩
            replace hw := hw x19 ex19
            refine g_iinc (v := x19) (lv' := [(8, .int x19), (7, .int x18), (9, .int 0), (6, .int u10), (5, .int x9), (4, .int v7), (0, .ref (A 0)), (1, .int p0), (2, .int p1), (3, .int p2)]) K 2 dX4_sampledPurity_131 rfl (by rw [ex19]; rfl) (by rw [En]; decide) rfl ?_
            refine g_goto (tgt := 66) K dX4_sampledPurity_134 (by decide) ?_
            refine gx_locals [0, 1, 3, 4, 5, 6, 7, 8, 9] rfl ?_
            exact ih _ _ _ hw
        · replace hw := hw.2 hc
          refine g_aload_n K 5 dX4_sampledPurity_92 rfl ?_
          refine g_get K (C := RX4) (T := TX4) (N := 9) 0 7 in_X4_sampledPurity_X4 (by decide +kernel) rfl rfl (by decide) rfl dX4_sampledPurity_93 ?_
          refine g_bipush (v := 16) K dX4_sampledPurity_96 rfl ?_
          refine g_iushr (v := xUshr x14 16) K dX4_sampledPurity_98 rfl ?_
          refine g_iload_n K 8 dX4_sampledPurity_99 rfl ?_
          refine g_irem K dX4_sampledPurity_100 hw.1 ?_
          replace hw := hw.2
          refine g_goto (tgt := 105) K dX4_sampledPurity_101 (by decide) ?_
          refine g_topi (fun x20 ex20 => ?_)
          replace hw := hw x20 ex20
          refine g_istore (lv' := [(9, .int x20), (8, .int v11), (7, .int v12), (6, .int u10), (5, .int x9), (4, .int v7), (0, .ref (A 0)), (1, .int p0), (2, .int p1), (3, .int p2)]) K dX4_sampledPurity_105 (by rw [En]; decide) rfl ?_
          refine g_iload K 2 dX4_sampledPurity_107 rfl ?_
          refine g_iload K 0 dX4_sampledPurity_109 rfl ?_
          refine g_iload K 5 dX4_sampledPurity_111 rfl ?_
          refine g_iload K 4 dX4_sampledPurity_113 rfl ?_
          refine g_iconst (v := 1) K dX4_sampledPurity_115 rfl ?_
          refine g_isub K dX4_sampledPurity_116 ?_
          refine g_callSNr (st' := fun u21 => [.int (bI u21), .int v12]) K hR [.int x20, .int v7, .int (x9 - 1)] [.int v12] RX8 (by decide +kernel) (by decide +kernel) (by decide +kernel) (c_X8_isWithin X.2.1 (gxD X) cy sd x20 v7 (x9 - 1) hw) gX4_sampledPurity_X8_isWithin_n97 rfl yok_X8_isWithin rfl (by decide) rfl (Nat.le_of_ble_eq_true rfl) dX4_sampledPurity_117 [] rfl (by decide) (fun _ => rfl) ⟨rfl, rfl⟩ (fun u21 hw => ?_)
          refine g_ifb_eq (tgt := 127) K dX4_sampledPurity_120 (by decide) (fun hc => ?_) (fun hc => ?_)
          · replace hw := hw.2 hc
            refine g_iconst (v := 0) K dX4_sampledPurity_127 rfl ?_
            refine g_iadd K dX4_sampledPurity_128 ?_
            refine g_topi (fun x22 ex22 => ?_)
            replace hw := hw x22 ex22
            refine g_istore (lv' := [(7, .int x22), (9, .int x20), (8, .int v11), (6, .int u10), (5, .int x9), (4, .int v7), (0, .ref (A 0)), (1, .int p0), (2, .int p1), (3, .int p2)]) K dX4_sampledPurity_129 (by rw [En]; decide) rfl ?_
            obtain ⟨x23, ex23⟩ : ∃ z : Int32, z = v11 + 1 := ⟨_, rfl⟩
            replace hw := hw x23 ex23
            refine g_iinc (v := x23) (lv' := [(8, .int x23), (7, .int x22), (9, .int x20), (6, .int u10), (5, .int x9), (4, .int v7), (0, .ref (A 0)), (1, .int p0), (2, .int p1), (3, .int p2)]) K 2 dX4_sampledPurity_131 rfl (by rw [ex23]; rfl) (by rw [En]; decide) rfl ?_
            refine g_goto (tgt := 66) K dX4_sampledPurity_134 (by decide) ?_
            refine gx_locals [0, 1, 3, 4, 5, 6, 7, 8, 9] rfl ?_
            exact ih _ _ _ hw
          · replace hw := hw.1 hc
            refine g_iconst (v := 1) K dX4_sampledPurity_123 rfl ?_
            refine g_goto (tgt := 128) K dX4_sampledPurity_124 (by decide) ?_
            refine g_iadd K dX4_sampledPurity_128 ?_
            refine g_topi (fun x24 ex24 => ?_)
            replace hw := hw x24 ex24
            refine g_istore (lv' := [(7, .int x24), (9, .int x20), (8, .int v11), (6, .int u10), (5, .int x9), (4, .int v7), (0, .ref (A 0)), (1, .int p0), (2, .int p1), (3, .int p2)]) K dX4_sampledPurity_129 (by rw [En]; decide) rfl ?_
            obtain ⟨x25, ex25⟩ : ∃ z : Int32, z = v11 + 1 := ⟨_, rfl⟩
            replace hw := hw x25 ex25
            refine g_iinc (v := x25) (lv' := [(8, .int x25), (7, .int x24), (9, .int x20), (6, .int u10), (5, .int x9), (4, .int v7), (0, .ref (A 0)), (1, .int p0), (2, .int p1), (3, .int p2)]) K 2 dX4_sampledPurity_131 rfl (by rw [ex25]; rfl) (by rw [En]; decide) rfl ?_
            refine g_goto (tgt := 66) K dX4_sampledPurity_134 (by decide) ?_
            refine gx_locals [0, 1, 3, 4, 5, 6, 7, 8, 9] rfl ?_
            exact ih _ _ _ hw
  refine key _ (fun v26 v27 v28 hw => ?_) fl _ _ _ hw
  refine g_iload K 1 dX4_sampledPurity_137 rfl ?_
  refine g_iload K 2 dX4_sampledPurity_139 rfl ?_
  refine g_callSNr (st' := fun u29 => [.int u29]) K hR [.int v27, .int u10] [] RX8 (by decide +kernel) (by decide +kernel) (by decide +kernel) (c_X8_perThousand X.2.1 (gxD X) cy sd v27 u10 hw) gX4_sampledPurity_X8_perThousand_n151 rfl yok_X8_perThousand rfl (by decide) rfl (Nat.le_of_ble_eq_true rfl) dX4_sampledPurity_141 [] rfl (by decide) (fun _ => rfl) ⟨rfl, rfl⟩ (fun u29 hw => ?_)
  exact g_zret K E Er (u29, v28) hw rfl rfl rfl (Nat.le_refl _) (Nat.le_refl _) dX4_sampledPurity_144

def wp_X4_makeBale_L176  (k176_212 : Int32 → Prop) : Nat → Int32 → Prop
  | 0, _ => False
  | fu + 1, v16 => (5 ≤ v16 → (k176_212 v16)) ∧ (¬ 5 ≤ v16 → (k176_212 v16))
def wp_X4_makeBale_L176_1  (k176_212 : Int32 → Prop) : Nat → Int32 → Prop
  | 0, _ => False
  | fu + 1, v30 => (5 ≤ v30 → (k176_212 v30)) ∧ (¬ 5 ≤ v30 → (k176_212 v30))
def wp_X4_makeBale_L176_2 (p0 : Int32) (u40 : XRow) (k176_212 : Int32 → XRow → Prop) : Nat → Int32 → XRow → Prop
  | 0, _, _ => False
  | fu + 1, v43, v44 => (5 ≤ v43 → (k176_212 v43 v44)) ∧ (¬ 5 ≤ v43 → (wp_X6_get 12 720 u40 p0 v43 (fun u45 : Int32 => wp_X6_add 5 50 v44 6 v43 u45 (fun u46 : XRow => ∀ x47 : Int32, x47 = v43 + 1 → (wp_X4_makeBale_L176_2 p0 u40 k176_212 fu x47 u46)))))
def wp_X4_makeBale (dS : XRow) (dM : XRow) (dP : XRow) (dN : XRow) (dR : XRow) (dZ : Int32) (p0 : Int32) (p1 : Int32) (p2 : Int32) (post : (Int32 × XRow × XRow × Int32 × XRow × XRow) → Prop) : Prop := wp_X6_get 7 42 dM p1 0 (fun u1 : Int32 => wp_X4_takeShare_o8 dP dN dR p1 p2 p0 (fun u2 : XRow × XRow × XRow => wp_X4_sampledPurity dS u2.2.1 dZ p0 u1 p2 (fun u3 : Int32 × Int32 => wp_X8_gradeOf u3.1 (fun u4 : Int32 => (u4 = 3 → (wp_X4_setting dS 4 (fun u18 : Int32 => (u18 ≤ 0 → (wp_X6_put 12 720 u2.2.1 p0 5 u1 (fun u19 : XRow => wp_X6_put 12 720 u19 p0 6 p2 (fun u20 : XRow => wp_X6_get 12 720 u20 p0 u1 (fun u21 : Int32 => wp_X8_perThousand u21 p2 (fun u22 : Int32 => wp_X6_put 12 720 u20 p0 7 u22 (fun u23 : XRow => wp_X6_put 12 720 u23 p0 8 u3.1 (fun u24 : XRow => wp_X6_put 12 720 u24 p0 9 u4 (fun u25 : XRow => wp_X6_put 12 720 u25 p0 10 0 (fun u26 : XRow => wp_X6_put 12 720 u26 p0 11 (-1) (fun u27 : XRow => ∀ x28 : Int32, x28 = p0 + 1 → (wp_X6_add 7 42 dM p1 6 1 (fun u29 : XRow => ∃ fl, wp_X4_makeBale_L176_1  (fun (v31 : Int32) => post (u3.2, u29, u2.1, x28, u27, u2.2.2)) fl 0))))))))))))) ∧ (¬ u18 ≤ 0 → (wp_X6_put 12 720 u2.2.1 p0 5 u1 (fun u32 : XRow => wp_X6_put 12 720 u32 p0 6 p2 (fun u33 : XRow => wp_X6_get 12 720 u33 p0 u1 (fun u34 : Int32 => wp_X8_perThousand u34 p2 (fun u35 : Int32 => wp_X6_put 12 720 u33 p0 7 u35 (fun u36 : XRow => wp_X6_put 12 720 u36 p0 8 u3.1 (fun u37 : XRow => wp_X6_put 12 720 u37 p0 9 u4 (fun u38 : XRow => wp_X6_put 12 720 u38 p0 10 2 (fun u39 : XRow => wp_X6_put 12 720 u39 p0 11 (-1) (fun u40 : XRow => ∀ x41 : Int32, x41 = p0 + 1 → (wp_X6_add 7 42 dM p1 6 1 (fun u42 : XRow => ∃ fl, wp_X4_makeBale_L176_2 p0 u40 (fun (v48 : Int32) (v49 : XRow) => post (u3.2, u42, v49, x41, u40, u2.2.2)) fl 0 u2.1)))))))))))))))) ∧ (¬ u4 = 3 → (wp_X6_put 12 720 u2.2.1 p0 5 u1 (fun u5 : XRow => wp_X6_put 12 720 u5 p0 6 p2 (fun u6 : XRow => wp_X6_get 12 720 u6 p0 u1 (fun u7 : Int32 => wp_X8_perThousand u7 p2 (fun u8 : Int32 => wp_X6_put 12 720 u6 p0 7 u8 (fun u9 : XRow => wp_X6_put 12 720 u9 p0 8 u3.1 (fun u10 : XRow => wp_X6_put 12 720 u10 p0 9 u4 (fun u11 : XRow => wp_X6_put 12 720 u11 p0 10 0 (fun u12 : XRow => wp_X6_put 12 720 u12 p0 11 (-1) (fun u13 : XRow => ∀ x14 : Int32, x14 = p0 + 1 → (wp_X6_add 7 42 dM p1 6 1 (fun u15 : XRow => ∃ fl, wp_X4_makeBale_L176  (fun (v17 : Int32) => post (u3.2, u15, u2.1, x14, u13, u2.2.2)) fl 0)))))))))))))))))
theorem in_X4_makeBale_X0 : ∀ w ∈ u_ws RX0 TX0 3, w ∈ wsX4_makeBale := by decide +kernel
theorem in_X4_makeBale_X4 : ∀ w ∈ u_ws RX4 TX4 9, w ∈ wsX4_makeBale := by decide +kernel
set_option maxRecDepth 100000 in
set_option maxHeartbeats 4000000 in
theorem c_X4_makeBale (l : Launch) (D : va_G) (cy : Nat → ClassId) (sd : xSd) (A : Nat → Nat) (dS : XRow) (dM : XRow) (dP : XRow) (dN : XRow) (dBc : Int32) (dO : XRow) (dC : XRow) (dCc : Int32) (dR : XRow) (dMc : Int32) (dZ : Int32) (dPc : Int32) (p0 : Int32) (p1 : Int32) (p2 : Int32) {post : (Int32 × XRow × XRow × Int32 × XRow × XRow) → Prop} (hw : wp_X4_makeBale dS dM dP dN dR dZ p0 p1 p2 post) : Ctr l D (xTys cy) sd yX4_makeBale wsX4_makeBale ({ frames := 3, cells := 0, slots := 0, locals := 77 } : Room) [.ref (A 0), .int p0, .int p1, .int p2] (fun u : Int32 × XRow × XRow × Int32 × XRow × XRow => none) [((A 0), .inr (5, [.ref (A 1), .ref (A 3), .ref (A 5), .ref (A 7), .ref (A 12), .ref (A 15), .int dMc, .int dZ, .int dPc])), ((A 1), .inr (7, [.int 5, .ref (A 2)])), ((A 2), .inl (cy 0, 5, .inl dS)), ((A 3), .inr (7, [.int 7, .ref (A 4)])), ((A 4), .inl (cy 0, 42, .inl dM)), ((A 5), .inr (7, [.int 5, .ref (A 6)])), ((A 6), .inl (cy 0, 50, .inl dP)), ((A 7), .inr (2, [.ref (A 8), .ref (A 10), .int dBc])), ((A 8), .inr (7, [.int 12, .ref (A 9)])), ((A 9), .inl (cy 0, 720, .inl dN)), ((A 10), .inr (7, [.int 60, .ref (A 11)])), ((A 11), .inl (cy 0, 60, .inl dO)), ((A 12), .inr (3, [.ref (A 13), .int dCc])), ((A 13), .inr (7, [.int 5, .ref (A 14)])), ((A 14), .inl (cy 0, 40, .inl dC)), ((A 15), .inr (7, [.int 5, .ref (A 16)])), ((A 16), .inl (cy 0, 5, .inl dR))] (fun u => [((A 0), .inr (5, [.ref (A 1), .ref (A 3), .ref (A 5), .ref (A 7), .ref (A 12), .ref (A 15), .int dMc, .int u.1, .int dPc])), ((A 1), .inr (7, [.int 5, .ref (A 2)])), ((A 2), .inl (cy 0, 5, .inl dS)), ((A 3), .inr (7, [.int 7, .ref (A 4)])), ((A 4), .inl (cy 0, 42, .inl u.2.1)), ((A 5), .inr (7, [.int 5, .ref (A 6)])), ((A 6), .inl (cy 0, 50, .inl u.2.2.1)), ((A 7), .inr (2, [.ref (A 8), .ref (A 10), .int u.2.2.2.1])), ((A 8), .inr (7, [.int 12, .ref (A 9)])), ((A 9), .inl (cy 0, 720, .inl u.2.2.2.2.1)), ((A 10), .inr (7, [.int 60, .ref (A 11)])), ((A 11), .inl (cy 0, 60, .inl dO)), ((A 12), .inr (3, [.ref (A 13), .int dCc])), ((A 13), .inr (7, [.int 5, .ref (A 14)])), ((A 14), .inl (cy 0, 40, .inl dC)), ((A 15), .inr (7, [.int 5, .ref (A 16)])), ((A 16), .inl (cy 0, 5, .inl u.2.2.2.2.2))]) post := by
  refine Ctr.of (cc := cX4_makeBale) (maxL := 10) (ret := none) (lv0 := [(0, .ref (A 0)), (1, .int p0), (2, .int p1), (3, .int p2)]) (by decide) rfl (Nat.le_of_ble_eq_true rfl) rfl ?_
  intro X El hR Er Enm ED E En K
  have K : Cx X cX4_makeBale RX4 wsX4_makeBale (xTys cy) sd := K
  have E : X.2.2.2.2.2.2.2.2.2.2.1 = xMQ X (fun u : Int32 × XRow × XRow × Int32 × XRow × XRow => none) post (fun u => [((A 0), .inr (5, [.ref (A 1), .ref (A 3), .ref (A 5), .ref (A 7), .ref (A 12), .ref (A 15), .int dMc, .int u.1, .int dPc])), ((A 1), .inr (7, [.int 5, .ref (A 2)])), ((A 2), .inl (cy 0, 5, .inl dS)), ((A 3), .inr (7, [.int 7, .ref (A 4)])), ((A 4), .inl (cy 0, 42, .inl u.2.1)), ((A 5), .inr (7, [.int 5, .ref (A 6)])), ((A 6), .inl (cy 0, 50, .inl u.2.2.1)), ((A 7), .inr (2, [.ref (A 8), .ref (A 10), .int u.2.2.2.1])), ((A 8), .inr (7, [.int 12, .ref (A 9)])), ((A 9), .inl (cy 0, 720, .inl u.2.2.2.2.1)), ((A 10), .inr (7, [.int 60, .ref (A 11)])), ((A 11), .inl (cy 0, 60, .inl dO)), ((A 12), .inr (3, [.ref (A 13), .int dCc])), ((A 13), .inr (7, [.int 5, .ref (A 14)])), ((A 14), .inl (cy 0, 40, .inl dC)), ((A 15), .inr (7, [.int 5, .ref (A 16)])), ((A 16), .inl (cy 0, 5, .inl u.2.2.2.2.2))]) 0 0 := E
  unfold wp_X4_makeBale at hw
  refine g_aload_n K 0 dX4_makeBale_0 rfl ?_
  refine g_get K (C := RX4) (T := TX4) (N := 9) 0 3 in_X4_makeBale_X4 (by decide +kernel) rfl rfl (by decide) rfl dX4_makeBale_1 ?_
  refine g_get K (C := RX0) (T := TX0) (N := 3) 7 0 in_X4_makeBale_X0 (by decide +kernel) rfl rfl (by decide) rfl dX4_makeBale_4 ?_
  refine g_astore (lv' := [(4, .ref (A 8)), (0, .ref (A 0)), (1, .int p0), (2, .int p1), (3, .int p2)]) K dX4_makeBale_7 (by rw [En]; decide) rfl ?_
  refine g_aload_n K 1 dX4_makeBale_9 rfl ?_
  refine g_get K (C := RX4) (T := TX4) (N := 9) 0 1 in_X4_makeBale_X4 (by decide +kernel) rfl rfl (by decide) rfl dX4_makeBale_10 ?_
  refine g_iload_n K 3 dX4_makeBale_13 rfl ?_
  refine g_iconst (v := 0) K dX4_makeBale_14 rfl ?_
  refine g_callVr (st' := fun u1 => [.int u1]) K hR [.int p1, .int 0] [] 3 rfl rfl (c_X6_get X.2.1 (gxD X) cy sd (A 3) (A 4) 7 42 dM p1 0 hw) gX4_makeBale_X6_get rfl yok_X6_get rfl rfl (by decide) rfl (Nat.le_of_ble_eq_true rfl) dX4_makeBale_15 [3, 4] rfl (by decide) (fun _ => rfl) ⟨rfl, rfl⟩ (fun u1 hw => ?_)
  refine g_istore (lv' := [(5, .int u1), (4, .ref (A 8)), (0, .ref (A 0)), (1, .int p0), (2, .int p1), (3, .int p2)]) K dX4_makeBale_18 (by rw [En]; decide) rfl ?_
  refine g_aload_n K 2 dX4_makeBale_20 rfl ?_
  refine g_iload_n K 4 dX4_makeBale_21 rfl ?_
  refine g_iload_n K 5 dX4_makeBale_22 rfl ?_
  refine g_aload K 1 dX4_makeBale_23 rfl ?_
  refine g_iload_n K 3 dX4_makeBale_25 rfl ?_
  refine g_callV (st' := fun u2 => []) (ws' := fun u2 => [((A 0), .inr (5, [.ref (A 1), .ref (A 3), .ref (A 5), .ref (A 7), .ref (A 12), .ref (A 15), .int dMc, .int dZ, .int dPc])), ((A 1), .inr (7, [.int 5, .ref (A 2)])), ((A 2), .inl (cy 0, 5, .inl dS)), ((A 3), .inr (7, [.int 7, .ref (A 4)])), ((A 4), .inl (cy 0, 42, .inl dM)), ((A 5), .inr (7, [.int 5, .ref (A 6)])), ((A 6), .inl (cy 0, 50, .inl u2.1)), ((A 7), .inr (2, [.ref (A 8), .ref (A 10), .int dBc])), ((A 8), .inr (7, [.int 12, .ref (A 9)])), ((A 9), .inl (cy 0, 720, .inl u2.2.1)), ((A 10), .inr (7, [.int 60, .ref (A 11)])), ((A 11), .inl (cy 0, 60, .inl dO)), ((A 12), .inr (3, [.ref (A 13), .int dCc])), ((A 13), .inr (7, [.int 5, .ref (A 14)])), ((A 14), .inl (cy 0, 40, .inl dC)), ((A 15), .inr (7, [.int 5, .ref (A 16)])), ((A 16), .inl (cy 0, 5, .inl u2.2.2))]) K hR [.int p1, .int p2, .ref (A 8), .int p0] [] 0 rfl rfl (c_X4_takeShare_o8 X.2.1 (gxD X) cy sd A dS dM dP dN dBc dO dC dCc dR dMc dZ dPc p1 p2 p0 hw) gX4_makeBale_X4_takeShare rfl yok_X4_takeShare rfl rfl (by decide) rfl (Nat.le_of_ble_eq_true rfl) dX4_makeBale_26 [0, 1, 2, 3, 4, 5, 6, 7, 8, 9, 10, 11, 12, 13, 14, 15, 16] rfl (by decide) (fun _ => rfl) (fun _ => rfl) (fun _ => rfl) ⟨rfl, rfl⟩ (fun u2 hw => ?_)
  refine g_aload_n K 2 dX4_makeBale_29 rfl ?_
  refine g_iload_n K 3 dX4_makeBale_30 rfl ?_
  refine g_iload K 0 dX4_makeBale_31 rfl ?_
  refine g_iload_n K 5 dX4_makeBale_33 rfl ?_
  refine g_callV (st' := fun u3 => [.int u3.1]) (ws' := fun u3 => [((A 0), .inr (5, [.ref (A 1), .ref (A 3), .ref (A 5), .ref (A 7), .ref (A 12), .ref (A 15), .int dMc, .int u3.2, .int dPc])), ((A 1), .inr (7, [.int 5, .ref (A 2)])), ((A 2), .inl (cy 0, 5, .inl dS)), ((A 3), .inr (7, [.int 7, .ref (A 4)])), ((A 4), .inl (cy 0, 42, .inl dM)), ((A 5), .inr (7, [.int 5, .ref (A 6)])), ((A 6), .inl (cy 0, 50, .inl u2.1)), ((A 7), .inr (2, [.ref (A 8), .ref (A 10), .int dBc])), ((A 8), .inr (7, [.int 12, .ref (A 9)])), ((A 9), .inl (cy 0, 720, .inl u2.2.1)), ((A 10), .inr (7, [.int 60, .ref (A 11)])), ((A 11), .inl (cy 0, 60, .inl dO)), ((A 12), .inr (3, [.ref (A 13), .int dCc])), ((A 13), .inr (7, [.int 5, .ref (A 14)])), ((A 14), .inl (cy 0, 40, .inl dC)), ((A 15), .inr (7, [.int 5, .ref (A 16)])), ((A 16), .inl (cy 0, 5, .inl u2.2.2))]) K hR [.int p0, .int u1, .int p2] [] 0 rfl rfl (c_X4_sampledPurity X.2.1 (gxD X) cy sd A dS dM u2.1 u2.2.1 dBc dO dC dCc u2.2.2 dMc dZ dPc p0 u1 p2 hw) gX4_makeBale_X4_sampledPurity rfl yok_X4_sampledPurity rfl rfl (by decide) rfl (Nat.le_of_ble_eq_true rfl) dX4_makeBale_34 [0, 1, 2, 3, 4, 5, 6, 7, 8, 9, 10, 11, 12, 13, 14, 15, 16] rfl (by decide) (fun _ => rfl) (fun _ => rfl) (fun _ => rfl) ⟨rfl, rfl⟩ (fun u3 hw => ?_)
  refine g_istore (lv' := [(6, .int u3.1), (5, .int u1), (4, .ref (A 8)), (0, .ref (A 0)), (1, .int p0), (2, .int p1), (3, .int p2)]) K dX4_makeBale_37 (by rw [En]; decide) rfl ?_
  refine g_iload K 0 dX4_makeBale_39 rfl ?_
  refine g_callSNr (st' := fun u4 => [.int u4]) K hR [.int u3.1] [] RX8 (by decide +kernel) (by decide +kernel) (by decide +kernel) (c_X8_gradeOf X.2.1 (gxD X) cy sd u3.1 hw) gX4_makeBale_X8_gradeOf_n148 rfl yok_X8_gradeOf rfl (by decide) rfl (Nat.le_of_ble_eq_true rfl) dX4_makeBale_41 [] rfl (by decide) (fun _ => rfl) ⟨rfl, rfl⟩ (fun u4 hw => ?_)
  refine g_istore (lv' := [(7, .int u4), (6, .int u3.1), (5, .int u1), (4, .ref (A 8)), (0, .ref (A 0)), (1, .int p0), (2, .int p1), (3, .int p2)]) K dX4_makeBale_44 (by rw [En]; decide) rfl ?_
  refine g_iload K 0 dX4_makeBale_46 rfl ?_
  refine g_iconst (v := 3) K dX4_makeBale_48 rfl ?_
  refine g_icmp_ne (tgt := 64) K dX4_makeBale_49 (by decide) (fun hc => ?_) (fun hc => ?_)
  · replace hw := hw.2 hc
    refine g_iconst (v := 0) K dX4_makeBale_64 rfl ?_
    refine g_istore (lv' := [(8, .int 0), (7, .int u4), (6, .int u3.1), (5, .int u1), (4, .ref (A 8)), (0, .ref (A 0)), (1, .int p0), (2, .int p1), (3, .int p2)]) K dX4_makeBale_65 (by rw [En]; decide) rfl ?_
    refine g_aload K 4 dX4_makeBale_67 rfl ?_
    refine g_iload_n K 6 dX4_makeBale_69 rfl ?_
    refine g_iconst (v := 5) K dX4_makeBale_70 rfl ?_
    refine g_iload K 3 dX4_makeBale_71 rfl ?_
    refine g_callV (st' := fun u5 => []) (ws' := fun u5 => [((A 0), .inr (5, [.ref (A 1), .ref (A 3), .ref (A 5), .ref (A 7), .ref (A 12), .ref (A 15), .int dMc, .int u3.2, .int dPc])), ((A 1), .inr (7, [.int 5, .ref (A 2)])), ((A 2), .inl (cy 0, 5, .inl dS)), ((A 3), .inr (7, [.int 7, .ref (A 4)])), ((A 4), .inl (cy 0, 42, .inl dM)), ((A 5), .inr (7, [.int 5, .ref (A 6)])), ((A 6), .inl (cy 0, 50, .inl u2.1)), ((A 7), .inr (2, [.ref (A 8), .ref (A 10), .int dBc])), ((A 8), .inr (7, [.int 12, .ref (A 9)])), ((A 9), .inl (cy 0, 720, .inl u5)), ((A 10), .inr (7, [.int 60, .ref (A 11)])), ((A 11), .inl (cy 0, 60, .inl dO)), ((A 12), .inr (3, [.ref (A 13), .int dCc])), ((A 13), .inr (7, [.int 5, .ref (A 14)])), ((A 14), .inl (cy 0, 40, .inl dC)), ((A 15), .inr (7, [.int 5, .ref (A 16)])), ((A 16), .inl (cy 0, 5, .inl u2.2.2))]) K hR [.int p0, .int 5, .int u1] [] 8 rfl rfl (c_X6_put X.2.1 (gxD X) cy sd (A 8) (A 9) 12 720 u2.2.1 p0 5 u1 hw) gX4_makeBale_X6_put rfl yok_X6_put rfl rfl (by decide) rfl (Nat.le_of_ble_eq_true rfl) dX4_makeBale_73 [8, 9] rfl (by decide) (fun _ => rfl) (fun _ => rfl) (fun _ => rfl) ⟨rfl, rfl⟩ (fun u5 hw => ?_)
    refine g_aload K 4 dX4_makeBale_76 rfl ?_
    refine g_iload_n K 6 dX4_makeBale_78 rfl ?_
    refine g_bipush (v := 6) K dX4_makeBale_79 rfl ?_
    refine g_iload_n K 8 dX4_makeBale_81 rfl ?_
    refine g_callV (st' := fun u6 => []) (ws' := fun u6 => [((A 0), .inr (5, [.ref (A 1), .ref (A 3), .ref (A 5), .ref (A 7), .ref (A 12), .ref (A 15), .int dMc, .int u3.2, .int dPc])), ((A 1), .inr (7, [.int 5, .ref (A 2)])), ((A 2), .inl (cy 0, 5, .inl dS)), ((A 3), .inr (7, [.int 7, .ref (A 4)])), ((A 4), .inl (cy 0, 42, .inl dM)), ((A 5), .inr (7, [.int 5, .ref (A 6)])), ((A 6), .inl (cy 0, 50, .inl u2.1)), ((A 7), .inr (2, [.ref (A 8), .ref (A 10), .int dBc])), ((A 8), .inr (7, [.int 12, .ref (A 9)])), ((A 9), .inl (cy 0, 720, .inl u6)), ((A 10), .inr (7, [.int 60, .ref (A 11)])), ((A 11), .inl (cy 0, 60, .inl dO)), ((A 12), .inr (3, [.ref (A 13), .int dCc])), ((A 13), .inr (7, [.int 5, .ref (A 14)])), ((A 14), .inl (cy 0, 40, .inl dC)), ((A 15), .inr (7, [.int 5, .ref (A 16)])), ((A 16), .inl (cy 0, 5, .inl u2.2.2))]) K hR [.int p0, .int 6, .int p2] [] 8 rfl rfl (c_X6_put X.2.1 (gxD X) cy sd (A 8) (A 9) 12 720 u5 p0 6 p2 hw) gX4_makeBale_X6_put rfl yok_X6_put rfl rfl (by decide) rfl (Nat.le_of_ble_eq_true rfl) dX4_makeBale_82 [8, 9] rfl (by decide) (fun _ => rfl) (fun _ => rfl) (fun _ => rfl) ⟨rfl, rfl⟩ (fun u6 hw => ?_)
    refine g_aload K 4 dX4_makeBale_85 rfl ?_
    refine g_iload_n K 6 dX4_makeBale_87 rfl ?_
    refine g_bipush (v := 7) K dX4_makeBale_88 rfl ?_
    refine g_aload K 4 dX4_makeBale_90 rfl ?_
    refine g_iload_n K 6 dX4_makeBale_92 rfl ?_
    refine g_iload K 3 dX4_makeBale_93 rfl ?_
    refine g_callVr (st' := fun u7 => [.int u7, .int 7, .int p0, .ref (A 8)]) K hR [.int p0, .int u1] [.int 7, .int p0, .ref (A 8)] 8 rfl rfl (c_X6_get X.2.1 (gxD X) cy sd (A 8) (A 9) 12 720 u6 p0 u1 hw) gX4_makeBale_X6_get rfl yok_X6_get rfl rfl (by decide) rfl (Nat.le_of_ble_eq_true rfl) dX4_makeBale_95 [8, 9] rfl (by decide) (fun _ => rfl) ⟨rfl, rfl⟩ (fun u7 hw => ?_)
    refine g_iload_n K 8 dX4_makeBale_98 rfl ?_
    refine g_callSNr (st' := fun u8 => [.int u8, .int 7, .int p0, .ref (A 8)]) K hR [.int u7, .int p2] [.int 7, .int p0, .ref (A 8)] RX8 (by decide +kernel) (by decide +kernel) (by decide +kernel) (c_X8_perThousand X.2.1 (gxD X) cy sd u7 p2 hw) gX4_makeBale_X8_perThousand_n151 rfl yok_X8_perThousand rfl (by decide) rfl (Nat.le_of_ble_eq_true rfl) dX4_makeBale_99 [] rfl (by decide) (fun _ => rfl) ⟨rfl, rfl⟩ (fun u8 hw => ?_)
    refine g_callV (st' := fun u9 => []) (ws' := fun u9 => [((A 0), .inr (5, [.ref (A 1), .ref (A 3), .ref (A 5), .ref (A 7), .ref (A 12), .ref (A 15), .int dMc, .int u3.2, .int dPc])), ((A 1), .inr (7, [.int 5, .ref (A 2)])), ((A 2), .inl (cy 0, 5, .inl dS)), ((A 3), .inr (7, [.int 7, .ref (A 4)])), ((A 4), .inl (cy 0, 42, .inl dM)), ((A 5), .inr (7, [.int 5, .ref (A 6)])), ((A 6), .inl (cy 0, 50, .inl u2.1)), ((A 7), .inr (2, [.ref (A 8), .ref (A 10), .int dBc])), ((A 8), .inr (7, [.int 12, .ref (A 9)])), ((A 9), .inl (cy 0, 720, .inl u9)), ((A 10), .inr (7, [.int 60, .ref (A 11)])), ((A 11), .inl (cy 0, 60, .inl dO)), ((A 12), .inr (3, [.ref (A 13), .int dCc])), ((A 13), .inr (7, [.int 5, .ref (A 14)])), ((A 14), .inl (cy 0, 40, .inl dC)), ((A 15), .inr (7, [.int 5, .ref (A 16)])), ((A 16), .inl (cy 0, 5, .inl u2.2.2))]) K hR [.int p0, .int 7, .int u8] [] 8 rfl rfl (c_X6_put X.2.1 (gxD X) cy sd (A 8) (A 9) 12 720 u6 p0 7 u8 hw) gX4_makeBale_X6_put rfl yok_X6_put rfl rfl (by decide) rfl (Nat.le_of_ble_eq_true rfl) dX4_makeBale_102 [8, 9] rfl (by decide) (fun _ => rfl) (fun _ => rfl) (fun _ => rfl) ⟨rfl, rfl⟩ (fun u9 hw => ?_)
    refine g_aload K 4 dX4_makeBale_105 rfl ?_
    refine g_iload_n K 6 dX4_makeBale_107 rfl ?_
    refine g_bipush (v := 8) K dX4_makeBale_108 rfl ?_
    refine g_iload K 2 dX4_makeBale_110 rfl ?_
    refine g_callV (st' := fun u10 => []) (ws' := fun u10 => [((A 0), .inr (5, [.ref (A 1), .ref (A 3), .ref (A 5), .ref (A 7), .ref (A 12), .ref (A 15), .int dMc, .int u3.2, .int dPc])), ((A 1), .inr (7, [.int 5, .ref (A 2)])), ((A 2), .inl (cy 0, 5, .inl dS)), ((A 3), .inr (7, [.int 7, .ref (A 4)])), ((A 4), .inl (cy 0, 42, .inl dM)), ((A 5), .inr (7, [.int 5, .ref (A 6)])), ((A 6), .inl (cy 0, 50, .inl u2.1)), ((A 7), .inr (2, [.ref (A 8), .ref (A 10), .int dBc])), ((A 8), .inr (7, [.int 12, .ref (A 9)])), ((A 9), .inl (cy 0, 720, .inl u10)), ((A 10), .inr (7, [.int 60, .ref (A 11)])), ((A 11), .inl (cy 0, 60, .inl dO)), ((A 12), .inr (3, [.ref (A 13), .int dCc])), ((A 13), .inr (7, [.int 5, .ref (A 14)])), ((A 14), .inl (cy 0, 40, .inl dC)), ((A 15), .inr (7, [.int 5, .ref (A 16)])), ((A 16), .inl (cy 0, 5, .inl u2.2.2))]) K hR [.int p0, .int 8, .int u3.1] [] 8 rfl rfl (c_X6_put X.2.1 (gxD X) cy sd (A 8) (A 9) 12 720 u9 p0 8 u3.1 hw) gX4_makeBale_X6_put rfl yok_X6_put rfl rfl (by decide) rfl (Nat.le_of_ble_eq_true rfl) dX4_makeBale_112 [8, 9] rfl (by decide) (fun _ => rfl) (fun _ => rfl) (fun _ => rfl) ⟨rfl, rfl⟩ (fun u10 hw => ?_)
    refine g_aload K 4 dX4_makeBale_115 rfl ?_
    refine g_iload_n K 6 dX4_makeBale_117 rfl ?_
    refine g_bipush (v := 9) K dX4_makeBale_118 rfl ?_
    refine g_iload K 1 dX4_makeBale_120 rfl ?_
    refine g_callV (st' := fun u11 => []) (ws' := fun u11 => [((A 0), .inr (5, [.ref (A 1), .ref (A 3), .ref (A 5), .ref (A 7), .ref (A 12), .ref (A 15), .int dMc, .int u3.2, .int dPc])), ((A 1), .inr (7, [.int 5, .ref (A 2)])), ((A 2), .inl (cy 0, 5, .inl dS)), ((A 3), .inr (7, [.int 7, .ref (A 4)])), ((A 4), .inl (cy 0, 42, .inl dM)), ((A 5), .inr (7, [.int 5, .ref (A 6)])), ((A 6), .inl (cy 0, 50, .inl u2.1)), ((A 7), .inr (2, [.ref (A 8), .ref (A 10), .int dBc])), ((A 8), .inr (7, [.int 12, .ref (A 9)])), ((A 9), .inl (cy 0, 720, .inl u11)), ((A 10), .inr (7, [.int 60, .ref (A 11)])), ((A 11), .inl (cy 0, 60, .inl dO)), ((A 12), .inr (3, [.ref (A 13), .int dCc])), ((A 13), .inr (7, [.int 5, .ref (A 14)])), ((A 14), .inl (cy 0, 40, .inl dC)), ((A 15), .inr (7, [.int 5, .ref (A 16)])), ((A 16), .inl (cy 0, 5, .inl u2.2.2))]) K hR [.int p0, .int 9, .int u4] [] 8 rfl rfl (c_X6_put X.2.1 (gxD X) cy sd (A 8) (A 9) 12 720 u10 p0 9 u4 hw) gX4_makeBale_X6_put rfl yok_X6_put rfl rfl (by decide) rfl (Nat.le_of_ble_eq_true rfl) dX4_makeBale_122 [8, 9] rfl (by decide) (fun _ => rfl) (fun _ => rfl) (fun _ => rfl) ⟨rfl, rfl⟩ (fun u11 hw => ?_)
    refine g_aload K 4 dX4_makeBale_125 rfl ?_
    refine g_iload_n K 6 dX4_makeBale_127 rfl ?_
    refine g_bipush (v := 10) K dX4_makeBale_128 rfl ?_
    refine g_iload K 0 dX4_makeBale_130 rfl ?_
    refine g_if_eq (tgt := 139) K dX4_makeBale_132 (by decide) (fun _ => ?_) (fun hc => absurd (by decide) hc)
    refine g_iconst (v := 0) K dX4_makeBale_139 rfl ?_
    refine g_callV (st' := fun u12 => []) (ws' := fun u12 => [((A 0), .inr (5, [.ref (A 1), .ref (A 3), .ref (A 5), .ref (A 7), .ref (A 12), .ref (A 15), .int dMc, .int u3.2, .int dPc])), ((A 1), .inr (7, [.int 5, .ref (A 2)])), ((A 2), .inl (cy 0, 5, .inl dS)), ((A 3), .inr (7, [.int 7, .ref (A 4)])), ((A 4), .inl (cy 0, 42, .inl dM)), ((A 5), .inr (7, [.int 5, .ref (A 6)])), ((A 6), .inl (cy 0, 50, .inl u2.1)), ((A 7), .inr (2, [.ref (A 8), .ref (A 10), .int dBc])), ((A 8), .inr (7, [.int 12, .ref (A 9)])), ((A 9), .inl (cy 0, 720, .inl u12)), ((A 10), .inr (7, [.int 60, .ref (A 11)])), ((A 11), .inl (cy 0, 60, .inl dO)), ((A 12), .inr (3, [.ref (A 13), .int dCc])), ((A 13), .inr (7, [.int 5, .ref (A 14)])), ((A 14), .inl (cy 0, 40, .inl dC)), ((A 15), .inr (7, [.int 5, .ref (A 16)])), ((A 16), .inl (cy 0, 5, .inl u2.2.2))]) K hR [.int p0, .int 10, .int 0] [] 8 rfl rfl (c_X6_put X.2.1 (gxD X) cy sd (A 8) (A 9) 12 720 u11 p0 10 0 hw) gX4_makeBale_X6_put rfl yok_X6_put rfl rfl (by decide) rfl (Nat.le_of_ble_eq_true rfl) dX4_makeBale_140 [8, 9] rfl (by decide) (fun _ => rfl) (fun _ => rfl) (fun _ => rfl) ⟨rfl, rfl⟩ (fun u12 hw => ?_)
    refine g_aload K 4 dX4_makeBale_143 rfl ?_
    refine g_iload_n K 6 dX4_makeBale_145 rfl ?_
    refine g_bipush (v := 11) K dX4_makeBale_146 rfl ?_
    refine g_iconst (v := (-1)) K dX4_makeBale_148 rfl ?_
    refine g_callV (st' := fun u13 => []) (ws' := fun u13 => [((A 0), .inr (5, [.ref (A 1), .ref (A 3), .ref (A 5), .ref (A 7), .ref (A 12), .ref (A 15), .int dMc, .int u3.2, .int dPc])), ((A 1), .inr (7, [.int 5, .ref (A 2)])), ((A 2), .inl (cy 0, 5, .inl dS)), ((A 3), .inr (7, [.int 7, .ref (A 4)])), ((A 4), .inl (cy 0, 42, .inl dM)), ((A 5), .inr (7, [.int 5, .ref (A 6)])), ((A 6), .inl (cy 0, 50, .inl u2.1)), ((A 7), .inr (2, [.ref (A 8), .ref (A 10), .int dBc])), ((A 8), .inr (7, [.int 12, .ref (A 9)])), ((A 9), .inl (cy 0, 720, .inl u13)), ((A 10), .inr (7, [.int 60, .ref (A 11)])), ((A 11), .inl (cy 0, 60, .inl dO)), ((A 12), .inr (3, [.ref (A 13), .int dCc])), ((A 13), .inr (7, [.int 5, .ref (A 14)])), ((A 14), .inl (cy 0, 40, .inl dC)), ((A 15), .inr (7, [.int 5, .ref (A 16)])), ((A 16), .inl (cy 0, 5, .inl u2.2.2))]) K hR [.int p0, .int 11, .int (-1)] [] 8 rfl rfl (c_X6_put X.2.1 (gxD X) cy sd (A 8) (A 9) 12 720 u12 p0 11 (-1) hw) gX4_makeBale_X6_put rfl yok_X6_put rfl rfl (by decide) rfl (Nat.le_of_ble_eq_true rfl) dX4_makeBale_149 [8, 9] rfl (by decide) (fun _ => rfl) (fun _ => rfl) (fun _ => rfl) ⟨rfl, rfl⟩ (fun u13 hw => ?_)
    refine g_aload_n K 5 dX4_makeBale_152 rfl ?_
    refine g_get K (C := RX4) (T := TX4) (N := 9) 0 3 in_X4_makeBale_X4 (by decide +kernel) rfl rfl (by decide) rfl dX4_makeBale_153 ?_
    refine g_iload_n K 6 dX4_makeBale_156 rfl ?_
    refine g_iconst (v := 1) K dX4_makeBale_157 rfl ?_
    refine g_iadd K dX4_makeBale_158 ?_
    refine g_topi (fun x14 ex14 => ?_)
    replace hw := hw x14 ex14
    refine g_put (ty := .int) (ws' := [((A 0), .inr (5, [.ref (A 1), .ref (A 3), .ref (A 5), .ref (A 7), .ref (A 12), .ref (A 15), .int dMc, .int u3.2, .int dPc])), ((A 1), .inr (7, [.int 5, .ref (A 2)])), ((A 2), .inl (cy 0, 5, .inl dS)), ((A 3), .inr (7, [.int 7, .ref (A 4)])), ((A 4), .inl (cy 0, 42, .inl dM)), ((A 5), .inr (7, [.int 5, .ref (A 6)])), ((A 6), .inl (cy 0, 50, .inl u2.1)), ((A 7), .inr (2, [.ref (A 8), .ref (A 10), .int x14])), ((A 8), .inr (7, [.int 12, .ref (A 9)])), ((A 9), .inl (cy 0, 720, .inl u13)), ((A 10), .inr (7, [.int 60, .ref (A 11)])), ((A 11), .inl (cy 0, 60, .inl dO)), ((A 12), .inr (3, [.ref (A 13), .int dCc])), ((A 13), .inr (7, [.int 5, .ref (A 14)])), ((A 14), .inl (cy 0, 40, .inl dC)), ((A 15), .inr (7, [.int 5, .ref (A 16)])), ((A 16), .inl (cy 0, 5, .inl u2.2.2))]) K (C := RX0) (T := TX0) (N := 3) 7 2 in_X4_makeBale_X0 tyX0 tyX0_ok nmX0 (by decide +kernel) rfl rfl (by decide) rfl (by decide +kernel) rfl rfl (Nat.le_of_ble_eq_true rfl) rfl dX4_makeBale_159 ?_
    refine g_aload_n K 5 dX4_makeBale_162 rfl ?_
    refine g_get K (C := RX4) (T := TX4) (N := 9) 0 1 in_X4_makeBale_X4 (by decide +kernel) rfl rfl (by decide) rfl dX4_makeBale_163 ?_
    refine g_iload_n K 7 dX4_makeBale_166 rfl ?_
    refine g_bipush (v := 6) K dX4_makeBale_167 rfl ?_
    refine g_iconst (v := 1) K dX4_makeBale_169 rfl ?_
    refine g_callV (st' := fun u15 => []) (ws' := fun u15 => [((A 0), .inr (5, [.ref (A 1), .ref (A 3), .ref (A 5), .ref (A 7), .ref (A 12), .ref (A 15), .int dMc, .int u3.2, .int dPc])), ((A 1), .inr (7, [.int 5, .ref (A 2)])), ((A 2), .inl (cy 0, 5, .inl dS)), ((A 3), .inr (7, [.int 7, .ref (A 4)])), ((A 4), .inl (cy 0, 42, .inl u15)), ((A 5), .inr (7, [.int 5, .ref (A 6)])), ((A 6), .inl (cy 0, 50, .inl u2.1)), ((A 7), .inr (2, [.ref (A 8), .ref (A 10), .int x14])), ((A 8), .inr (7, [.int 12, .ref (A 9)])), ((A 9), .inl (cy 0, 720, .inl u13)), ((A 10), .inr (7, [.int 60, .ref (A 11)])), ((A 11), .inl (cy 0, 60, .inl dO)), ((A 12), .inr (3, [.ref (A 13), .int dCc])), ((A 13), .inr (7, [.int 5, .ref (A 14)])), ((A 14), .inl (cy 0, 40, .inl dC)), ((A 15), .inr (7, [.int 5, .ref (A 16)])), ((A 16), .inl (cy 0, 5, .inl u2.2.2))]) K hR [.int p1, .int 6, .int 1] [] 3 rfl rfl (c_X6_add X.2.1 (gxD X) cy sd (A 3) (A 4) 7 42 dM p1 6 1 hw) gX4_makeBale_X6_add rfl yok_X6_add rfl rfl (by decide) rfl (Nat.le_of_ble_eq_true rfl) dX4_makeBale_170 [3, 4] rfl (by decide) (fun _ => rfl) (fun _ => rfl) (fun _ => rfl) ⟨rfl, rfl⟩ (fun u15 hw => ?_)
    refine g_iconst (v := 0) K dX4_makeBale_173 rfl ?_
    refine g_istore (lv' := [(9, .int 0), (8, .int 0), (7, .int u4), (6, .int u3.1), (5, .int u1), (4, .ref (A 8)), (0, .ref (A 0)), (1, .int p0), (2, .int p1), (3, .int p2)]) K dX4_makeBale_174 (by rw [En]; decide) rfl ?_
    obtain ⟨fl, hw⟩ := hw
    have key : ∀ (k176_212 : Int32 → Prop), (∀ (v16 : Int32), k176_212 v16 → Gx X 0 0 [((A 0), .inr (5, [.ref (A 1), .ref (A 3), .ref (A 5), .ref (A 7), .ref (A 12), .ref (A 15), .int dMc, .int u3.2, .int dPc])), ((A 1), .inr (7, [.int 5, .ref (A 2)])), ((A 2), .inl (cy 0, 5, .inl dS)), ((A 3), .inr (7, [.int 7, .ref (A 4)])), ((A 4), .inl (cy 0, 42, .inl u15)), ((A 5), .inr (7, [.int 5, .ref (A 6)])), ((A 6), .inl (cy 0, 50, .inl u2.1)), ((A 7), .inr (2, [.ref (A 8), .ref (A 10), .int x14])), ((A 8), .inr (7, [.int 12, .ref (A 9)])), ((A 9), .inl (cy 0, 720, .inl u13)), ((A 10), .inr (7, [.int 60, .ref (A 11)])), ((A 11), .inl (cy 0, 60, .inl dO)), ((A 12), .inr (3, [.ref (A 13), .int dCc])), ((A 13), .inr (7, [.int 5, .ref (A 14)])), ((A 14), .inl (cy 0, 40, .inl dC)), ((A 15), .inr (7, [.int 5, .ref (A 16)])), ((A 16), .inl (cy 0, 5, .inl u2.2.2))] [(9, .int v16), (8, .int 0), (7, .int u4), (6, .int u3.1), (5, .int u1), (4, .ref (A 8)), (0, .ref (A 0)), (1, .int p0), (2, .int p1), (3, .int p2)] 212 []) → ∀ (n : Nat) (v16 : Int32), wp_X4_makeBale_L176 k176_212 n v16 → Gx X 0 0 [((A 0), .inr (5, [.ref (A 1), .ref (A 3), .ref (A 5), .ref (A 7), .ref (A 12), .ref (A 15), .int dMc, .int u3.2, .int dPc])), ((A 1), .inr (7, [.int 5, .ref (A 2)])), ((A 2), .inl (cy 0, 5, .inl dS)), ((A 3), .inr (7, [.int 7, .ref (A 4)])), ((A 4), .inl (cy 0, 42, .inl u15)), ((A 5), .inr (7, [.int 5, .ref (A 6)])), ((A 6), .inl (cy 0, 50, .inl u2.1)), ((A 7), .inr (2, [.ref (A 8), .ref (A 10), .int x14])), ((A 8), .inr (7, [.int 12, .ref (A 9)])), ((A 9), .inl (cy 0, 720, .inl u13)), ((A 10), .inr (7, [.int 60, .ref (A 11)])), ((A 11), .inl (cy 0, 60, .inl dO)), ((A 12), .inr (3, [.ref (A 13), .int dCc])), ((A 13), .inr (7, [.int 5, .ref (A 14)])), ((A 14), .inl (cy 0, 40, .inl dC)), ((A 15), .inr (7, [.int 5, .ref (A 16)])), ((A 16), .inl (cy 0, 5, .inl u2.2.2))] [(9, .int v16), (8, .int 0), (7, .int u4), (6, .int u3.1), (5, .int u1), (4, .ref (A 8)), (0, .ref (A 0)), (1, .int p0), (2, .int p1), (3, .int p2)] 176 [] := by
      intro k176_212 hx212 n
      induction n with
      | zero => intro v16 hw; exact hw.elim
      | succ n ih =>
        intro v16 hw
        refine g_iload K 0 dX4_makeBale_176 rfl ?_
        refine g_iconst (v := 5) K dX4_makeBale_178 rfl ?_
        refine g_icmp_ge (tgt := 212) K dX4_makeBale_179 (by decide) (fun hc => ?_) (fun hc => ?_)
        · replace hw := hw.1 hc
          exact hx212 _ hw
        · replace hw := hw.2 hc
          refine g_iload K 1 dX4_makeBale_182 rfl ?_
          refine g_if_eq (tgt := 212) K dX4_makeBale_184 (by decide) (fun _ => ?_) (fun hc => absurd (by decide) hc)
          exact hx212 _ hw
    refine key _ (fun v17 hw => ?_) fl _ hw
    exact g_vret K E Er (u3.2, u15, u2.1, x14, u13, u2.2.2) hw rfl rfl (Nat.le_refl _) (Nat.le_refl _) dX4_makeBale_212
  · replace hw := hw.1 hc
    refine g_aload_n K 4 dX4_makeBale_52 rfl ?_
    refine g_iconst (v := 4) K dX4_makeBale_53 rfl ?_
    refine g_callVr (st' := fun u18 => [.int u18]) K hR [.int 4] [] 0 rfl rfl (c_X4_setting X.2.1 (gxD X) cy sd A dS dM u2.1 u2.2.1 dBc dO dC dCc u2.2.2 dMc u3.2 dPc 4 hw) gX4_makeBale_X4_setting rfl yok_X4_setting rfl rfl (by decide) rfl (Nat.le_of_ble_eq_true rfl) dX4_makeBale_54 [0, 1, 2, 3, 4, 5, 6, 7, 8, 9, 10, 11, 12, 13, 14, 15, 16] rfl (by decide) (fun _ => rfl) ⟨rfl, rfl⟩ (fun u18 hw => ?_)
    refine g_if_le (tgt := 64) K dX4_makeBale_57 (by decide) (fun hc => ?_) (fun hc => ?_)
    · replace hw := hw.1 hc
      refine g_iconst (v := 0) K dX4_makeBale_64 rfl ?_
      refine g_istore (lv' := [(8, .int 0), (7, .int u4), (6, .int u3.1), (5, .int u1), (4, .ref (A 8)), (0, .ref (A 0)), (1, .int p0), (2, .int p1), (3, .int p2)]) K dX4_makeBale_65 (by rw [En]; decide) rfl ?_
      refine g_aload K 4 dX4_makeBale_67 rfl ?_
      refine g_iload_n K 6 dX4_makeBale_69 rfl ?_
      refine g_iconst (v := 5) K dX4_makeBale_70 rfl ?_
      refine g_iload K 3 dX4_makeBale_71 rfl ?_
      refine g_callV (st' := fun u19 => []) (ws' := fun u19 => [((A 0), .inr (5, [.ref (A 1), .ref (A 3), .ref (A 5), .ref (A 7), .ref (A 12), .ref (A 15), .int dMc, .int u3.2, .int dPc])), ((A 1), .inr (7, [.int 5, .ref (A 2)])), ((A 2), .inl (cy 0, 5, .inl dS)), ((A 3), .inr (7, [.int 7, .ref (A 4)])), ((A 4), .inl (cy 0, 42, .inl dM)), ((A 5), .inr (7, [.int 5, .ref (A 6)])), ((A 6), .inl (cy 0, 50, .inl u2.1)), ((A 7), .inr (2, [.ref (A 8), .ref (A 10), .int dBc])), ((A 8), .inr (7, [.int 12, .ref (A 9)])), ((A 9), .inl (cy 0, 720, .inl u19)), ((A 10), .inr (7, [.int 60, .ref (A 11)])), ((A 11), .inl (cy 0, 60, .inl dO)), ((A 12), .inr (3, [.ref (A 13), .int dCc])), ((A 13), .inr (7, [.int 5, .ref (A 14)])), ((A 14), .inl (cy 0, 40, .inl dC)), ((A 15), .inr (7, [.int 5, .ref (A 16)])), ((A 16), .inl (cy 0, 5, .inl u2.2.2))]) K hR [.int p0, .int 5, .int u1] [] 8 rfl rfl (c_X6_put X.2.1 (gxD X) cy sd (A 8) (A 9) 12 720 u2.2.1 p0 5 u1 hw) gX4_makeBale_X6_put rfl yok_X6_put rfl rfl (by decide) rfl (Nat.le_of_ble_eq_true rfl) dX4_makeBale_73 [8, 9] rfl (by decide) (fun _ => rfl) (fun _ => rfl) (fun _ => rfl) ⟨rfl, rfl⟩ (fun u19 hw => ?_)
      refine g_aload K 4 dX4_makeBale_76 rfl ?_
      refine g_iload_n K 6 dX4_makeBale_78 rfl ?_
      refine g_bipush (v := 6) K dX4_makeBale_79 rfl ?_
      refine g_iload_n K 8 dX4_makeBale_81 rfl ?_
      refine g_callV (st' := fun u20 => []) (ws' := fun u20 => [((A 0), .inr (5, [.ref (A 1), .ref (A 3), .ref (A 5), .ref (A 7), .ref (A 12), .ref (A 15), .int dMc, .int u3.2, .int dPc])), ((A 1), .inr (7, [.int 5, .ref (A 2)])), ((A 2), .inl (cy 0, 5, .inl dS)), ((A 3), .inr (7, [.int 7, .ref (A 4)])), ((A 4), .inl (cy 0, 42, .inl dM)), ((A 5), .inr (7, [.int 5, .ref (A 6)])), ((A 6), .inl (cy 0, 50, .inl u2.1)), ((A 7), .inr (2, [.ref (A 8), .ref (A 10), .int dBc])), ((A 8), .inr (7, [.int 12, .ref (A 9)])), ((A 9), .inl (cy 0, 720, .inl u20)), ((A 10), .inr (7, [.int 60, .ref (A 11)])), ((A 11), .inl (cy 0, 60, .inl dO)), ((A 12), .inr (3, [.ref (A 13), .int dCc])), ((A 13), .inr (7, [.int 5, .ref (A 14)])), ((A 14), .inl (cy 0, 40, .inl dC)), ((A 15), .inr (7, [.int 5, .ref (A 16)])), ((A 16), .inl (cy 0, 5, .inl u2.2.2))]) K hR [.int p0, .int 6, .int p2] [] 8 rfl rfl (c_X6_put X.2.1 (gxD X) cy sd (A 8) (A 9) 12 720 u19 p0 6 p2 hw) gX4_makeBale_X6_put rfl yok_X6_put rfl rfl (by decide) rfl (Nat.le_of_ble_eq_true rfl) dX4_makeBale_82 [8, 9] rfl (by decide) (fun _ => rfl) (fun _ => rfl) (fun _ => rfl) ⟨rfl, rfl⟩ (fun u20 hw => ?_)
      refine g_aload K 4 dX4_makeBale_85 rfl ?_
      refine g_iload_n K 6 dX4_makeBale_87 rfl ?_
      refine g_bipush (v := 7) K dX4_makeBale_88 rfl ?_
      refine g_aload K 4 dX4_makeBale_90 rfl ?_
      refine g_iload_n K 6 dX4_makeBale_92 rfl ?_
      refine g_iload K 3 dX4_makeBale_93 rfl ?_
      refine g_callVr (st' := fun u21 => [.int u21, .int 7, .int p0, .ref (A 8)]) K hR [.int p0, .int u1] [.int 7, .int p0, .ref (A 8)] 8 rfl rfl (c_X6_get X.2.1 (gxD X) cy sd (A 8) (A 9) 12 720 u20 p0 u1 hw) gX4_makeBale_X6_get rfl yok_X6_get rfl rfl (by decide) rfl (Nat.le_of_ble_eq_true rfl) dX4_makeBale_95 [8, 9] rfl (by decide) (fun _ => rfl) ⟨rfl, rfl⟩ (fun u21 hw => ?_)
      refine g_iload_n K 8 dX4_makeBale_98 rfl ?_
      refine g_callSNr (st' := fun u22 => [.int u22, .int 7, .int p0, .ref (A 8)]) K hR [.int u21, .int p2] [.int 7, .int p0, .ref (A 8)] RX8 (by decide +kernel) (by decide +kernel) (by decide +kernel) (c_X8_perThousand X.2.1 (gxD X) cy sd u21 p2 hw) gX4_makeBale_X8_perThousand_n151 rfl yok_X8_perThousand rfl (by decide) rfl (Nat.le_of_ble_eq_true rfl) dX4_makeBale_99 [] rfl (by decide) (fun _ => rfl) ⟨rfl, rfl⟩ (fun u22 hw => ?_)
      refine g_callV (st' := fun u23 => []) (ws' := fun u23 => [((A 0), .inr (5, [.ref (A 1), .ref (A 3), .ref (A 5), .ref (A 7), .ref (A 12), .ref (A 15), .int dMc, .int u3.2, .int dPc])), ((A 1), .inr (7, [.int 5, .ref (A 2)])), ((A 2), .inl (cy 0, 5, .inl dS)), ((A 3), .inr (7, [.int 7, .ref (A 4)])), ((A 4), .inl (cy 0, 42, .inl dM)), ((A 5), .inr (7, [.int 5, .ref (A 6)])), ((A 6), .inl (cy 0, 50, .inl u2.1)), ((A 7), .inr (2, [.ref (A 8), .ref (A 10), .int dBc])), ((A 8), .inr (7, [.int 12, .ref (A 9)])), ((A 9), .inl (cy 0, 720, .inl u23)), ((A 10), .inr (7, [.int 60, .ref (A 11)])), ((A 11), .inl (cy 0, 60, .inl dO)), ((A 12), .inr (3, [.ref (A 13), .int dCc])), ((A 13), .inr (7, [.int 5, .ref (A 14)])), ((A 14), .inl (cy 0, 40, .inl dC)), ((A 15), .inr (7, [.int 5, .ref (A 16)])), ((A 16), .inl (cy 0, 5, .inl u2.2.2))]) K hR [.int p0, .int 7, .int u22] [] 8 rfl rfl (c_X6_put X.2.1 (gxD X) cy sd (A 8) (A 9) 12 720 u20 p0 7 u22 hw) gX4_makeBale_X6_put rfl yok_X6_put rfl rfl (by decide) rfl (Nat.le_of_ble_eq_true rfl) dX4_makeBale_102 [8, 9] rfl (by decide) (fun _ => rfl) (fun _ => rfl) (fun _ => rfl) ⟨rfl, rfl⟩ (fun u23 hw => ?_)
      refine g_aload K 4 dX4_makeBale_105 rfl ?_
      refine g_iload_n K 6 dX4_makeBale_107 rfl ?_
      refine g_bipush (v := 8) K dX4_makeBale_108 rfl ?_
      refine g_iload K 2 dX4_makeBale_110 rfl ?_
      refine g_callV (st' := fun u24 => []) (ws' := fun u24 => [((A 0), .inr (5, [.ref (A 1), .ref (A 3), .ref (A 5), .ref (A 7), .ref (A 12), .ref (A 15), .int dMc, .int u3.2, .int dPc])), ((A 1), .inr (7, [.int 5, .ref (A 2)])), ((A 2), .inl (cy 0, 5, .inl dS)), ((A 3), .inr (7, [.int 7, .ref (A 4)])), ((A 4), .inl (cy 0, 42, .inl dM)), ((A 5), .inr (7, [.int 5, .ref (A 6)])), ((A 6), .inl (cy 0, 50, .inl u2.1)), ((A 7), .inr (2, [.ref (A 8), .ref (A 10), .int dBc])), ((A 8), .inr (7, [.int 12, .ref (A 9)])), ((A 9), .inl (cy 0, 720, .inl u24)), ((A 10), .inr (7, [.int 60, .ref (A 11)])), ((A 11), .inl (cy 0, 60, .inl dO)), ((A 12), .inr (3, [.ref (A 13), .int dCc])), ((A 13), .inr (7, [.int 5, .ref (A 14)])), ((A 14), .inl (cy 0, 40, .inl dC)), ((A 15), .inr (7, [.int 5, .ref (A 16)])), ((A 16), .inl (cy 0, 5, .inl u2.2.2))]) K hR [.int p0, .int 8, .int u3.1] [] 8 rfl rfl (c_X6_put X.2.1 (gxD X) cy sd (A 8) (A 9) 12 720 u23 p0 8 u3.1 hw) gX4_makeBale_X6_put rfl yok_X6_put rfl rfl (by decide) rfl (Nat.le_of_ble_eq_true rfl) dX4_makeBale_112 [8, 9] rfl (by decide) (fun _ => rfl) (fun _ => rfl) (fun _ => rfl) ⟨rfl, rfl⟩ (fun u24 hw => ?_)
      refine g_aload K 4 dX4_makeBale_115 rfl ?_
      refine g_iload_n K 6 dX4_makeBale_117 rfl ?_
      refine g_bipush (v := 9) K dX4_makeBale_118 rfl ?_
      refine g_iload K 1 dX4_makeBale_120 rfl ?_
      refine g_callV (st' := fun u25 => []) (ws' := fun u25 => [((A 0), .inr (5, [.ref (A 1), .ref (A 3), .ref (A 5), .ref (A 7), .ref (A 12), .ref (A 15), .int dMc, .int u3.2, .int dPc])), ((A 1), .inr (7, [.int 5, .ref (A 2)])), ((A 2), .inl (cy 0, 5, .inl dS)), ((A 3), .inr (7, [.int 7, .ref (A 4)])), ((A 4), .inl (cy 0, 42, .inl dM)), ((A 5), .inr (7, [.int 5, .ref (A 6)])), ((A 6), .inl (cy 0, 50, .inl u2.1)), ((A 7), .inr (2, [.ref (A 8), .ref (A 10), .int dBc])), ((A 8), .inr (7, [.int 12, .ref (A 9)])), ((A 9), .inl (cy 0, 720, .inl u25)), ((A 10), .inr (7, [.int 60, .ref (A 11)])), ((A 11), .inl (cy 0, 60, .inl dO)), ((A 12), .inr (3, [.ref (A 13), .int dCc])), ((A 13), .inr (7, [.int 5, .ref (A 14)])), ((A 14), .inl (cy 0, 40, .inl dC)), ((A 15), .inr (7, [.int 5, .ref (A 16)])), ((A 16), .inl (cy 0, 5, .inl u2.2.2))]) K hR [.int p0, .int 9, .int u4] [] 8 rfl rfl (c_X6_put X.2.1 (gxD X) cy sd (A 8) (A 9) 12 720 u24 p0 9 u4 hw) gX4_makeBale_X6_put rfl yok_X6_put rfl rfl (by decide) rfl (Nat.le_of_ble_eq_true rfl) dX4_makeBale_122 [8, 9] rfl (by decide) (fun _ => rfl) (fun _ => rfl) (fun _ => rfl) ⟨rfl, rfl⟩ (fun u25 hw => ?_)
      refine g_aload K 4 dX4_makeBale_125 rfl ?_
      refine g_iload_n K 6 dX4_makeBale_127 rfl ?_
      refine g_bipush (v := 10) K dX4_makeBale_128 rfl ?_
      refine g_iload K 0 dX4_makeBale_130 rfl ?_
      refine g_if_eq (tgt := 139) K dX4_makeBale_132 (by decide) (fun _ => ?_) (fun hc => absurd (by decide) hc)
      refine g_iconst (v := 0) K dX4_makeBale_139 rfl ?_
      refine g_callV (st' := fun u26 => []) (ws' := fun u26 => [((A 0), .inr (5, [.ref (A 1), .ref (A 3), .ref (A 5), .ref (A 7), .ref (A 12), .ref (A 15), .int dMc, .int u3.2, .int dPc])), ((A 1), .inr (7, [.int 5, .ref (A 2)])), ((A 2), .inl (cy 0, 5, .inl dS)), ((A 3), .inr (7, [.int 7, .ref (A 4)])), ((A 4), .inl (cy 0, 42, .inl dM)), ((A 5), .inr (7, [.int 5, .ref (A 6)])), ((A 6), .inl (cy 0, 50, .inl u2.1)), ((A 7), .inr (2, [.ref (A 8), .ref (A 10), .int dBc])), ((A 8), .inr (7, [.int 12, .ref (A 9)])), ((A 9), .inl (cy 0, 720, .inl u26)), ((A 10), .inr (7, [.int 60, .ref (A 11)])), ((A 11), .inl (cy 0, 60, .inl dO)), ((A 12), .inr (3, [.ref (A 13), .int dCc])), ((A 13), .inr (7, [.int 5, .ref (A 14)])), ((A 14), .inl (cy 0, 40, .inl dC)), ((A 15), .inr (7, [.int 5, .ref (A 16)])), ((A 16), .inl (cy 0, 5, .inl u2.2.2))]) K hR [.int p0, .int 10, .int 0] [] 8 rfl rfl (c_X6_put X.2.1 (gxD X) cy sd (A 8) (A 9) 12 720 u25 p0 10 0 hw) gX4_makeBale_X6_put rfl yok_X6_put rfl rfl (by decide) rfl (Nat.le_of_ble_eq_true rfl) dX4_makeBale_140 [8, 9] rfl (by decide) (fun _ => rfl) (fun _ => rfl) (fun _ => rfl) ⟨rfl, rfl⟩ (fun u26 hw => ?_)
      refine g_aload K 4 dX4_makeBale_143 rfl ?_
      refine g_iload_n K 6 dX4_makeBale_145 rfl ?_
      refine g_bipush (v := 11) K dX4_makeBale_146 rfl ?_
      refine g_iconst (v := (-1)) K dX4_makeBale_148 rfl ?_
      refine g_callV (st' := fun u27 => []) (ws' := fun u27 => [((A 0), .inr (5, [.ref (A 1), .ref (A 3), .ref (A 5), .ref (A 7), .ref (A 12), .ref (A 15), .int dMc, .int u3.2, .int dPc])), ((A 1), .inr (7, [.int 5, .ref (A 2)])), ((A 2), .inl (cy 0, 5, .inl dS)), ((A 3), .inr (7, [.int 7, .ref (A 4)])), ((A 4), .inl (cy 0, 42, .inl dM)), ((A 5), .inr (7, [.int 5, .ref (A 6)])), ((A 6), .inl (cy 0, 50, .inl u2.1)), ((A 7), .inr (2, [.ref (A 8), .ref (A 10), .int dBc])), ((A 8), .inr (7, [.int 12, .ref (A 9)])), ((A 9), .inl (cy 0, 720, .inl u27)), ((A 10), .inr (7, [.int 60, .ref (A 11)])), ((A 11), .inl (cy 0, 60, .inl dO)), ((A 12), .inr (3, [.ref (A 13), .int dCc])), ((A 13), .inr (7, [.int 5, .ref (A 14)])), ((A 14), .inl (cy 0, 40, .inl dC)), ((A 15), .inr (7, [.int 5, .ref (A 16)])), ((A 16), .inl (cy 0, 5, .inl u2.2.2))]) K hR [.int p0, .int 11, .int (-1)] [] 8 rfl rfl (c_X6_put X.2.1 (gxD X) cy sd (A 8) (A 9) 12 720 u26 p0 11 (-1) hw) gX4_makeBale_X6_put rfl yok_X6_put rfl rfl (by decide) rfl (Nat.le_of_ble_eq_true rfl) dX4_makeBale_149 [8, 9] rfl (by decide) (fun _ => rfl) (fun _ => rfl) (fun _ => rfl) ⟨rfl, rfl⟩ (fun u27 hw => ?_)
      refine g_aload_n K 5 dX4_makeBale_152 rfl ?_
      refine g_get K (C := RX4) (T := TX4) (N := 9) 0 3 in_X4_makeBale_X4 (by decide +kernel) rfl rfl (by decide) rfl dX4_makeBale_153 ?_
      refine g_iload_n K 6 dX4_makeBale_156 rfl ?_
      refine g_iconst (v := 1) K dX4_makeBale_157 rfl ?_
      refine g_iadd K dX4_makeBale_158 ?_
      refine g_topi (fun x28 ex28 => ?_)
      replace hw := hw x28 ex28
      refine g_put (ty := .int) (ws' := [((A 0), .inr (5, [.ref (A 1), .ref (A 3), .ref (A 5), .ref (A 7), .ref (A 12), .ref (A 15), .int dMc, .int u3.2, .int dPc])), ((A 1), .inr (7, [.int 5, .ref (A 2)])), ((A 2), .inl (cy 0, 5, .inl dS)), ((A 3), .inr (7, [.int 7, .ref (A 4)])), ((A 4), .inl (cy 0, 42, .inl dM)), ((A 5), .inr (7, [.int 5, .ref (A 6)])), ((A 6), .inl (cy 0, 50, .inl u2.1)), ((A 7), .inr (2, [.ref (A 8), .ref (A 10), .int x28])), ((A 8), .inr (7, [.int 12, .ref (A 9)])), ((A 9), .inl (cy 0, 720, .inl u27)), ((A 10), .inr (7, [.int 60, .ref (A 11)])), ((A 11), .inl (cy 0, 60, .inl dO)), ((A 12), .inr (3, [.ref (A 13), .int dCc])), ((A 13), .inr (7, [.int 5, .ref (A 14)])), ((A 14), .inl (cy 0, 40, .inl dC)), ((A 15), .inr (7, [.int 5, .ref (A 16)])), ((A 16), .inl (cy 0, 5, .inl u2.2.2))]) K (C := RX0) (T := TX0) (N := 3) 7 2 in_X4_makeBale_X0 tyX0 tyX0_ok nmX0 (by decide +kernel) rfl rfl (by decide) rfl (by decide +kernel) rfl rfl (Nat.le_of_ble_eq_true rfl) rfl dX4_makeBale_159 ?_
      refine g_aload_n K 5 dX4_makeBale_162 rfl ?_
      refine g_get K (C := RX4) (T := TX4) (N := 9) 0 1 in_X4_makeBale_X4 (by decide +kernel) rfl rfl (by decide) rfl dX4_makeBale_163 ?_
      refine g_iload_n K 7 dX4_makeBale_166 rfl ?_
      refine g_bipush (v := 6) K dX4_makeBale_167 rfl ?_
      refine g_iconst (v := 1) K dX4_makeBale_169 rfl ?_
      refine g_callV (st' := fun u29 => []) (ws' := fun u29 => [((A 0), .inr (5, [.ref (A 1), .ref (A 3), .ref (A 5), .ref (A 7), .ref (A 12), .ref (A 15), .int dMc, .int u3.2, .int dPc])), ((A 1), .inr (7, [.int 5, .ref (A 2)])), ((A 2), .inl (cy 0, 5, .inl dS)), ((A 3), .inr (7, [.int 7, .ref (A 4)])), ((A 4), .inl (cy 0, 42, .inl u29)), ((A 5), .inr (7, [.int 5, .ref (A 6)])), ((A 6), .inl (cy 0, 50, .inl u2.1)), ((A 7), .inr (2, [.ref (A 8), .ref (A 10), .int x28])), ((A 8), .inr (7, [.int 12, .ref (A 9)])), ((A 9), .inl (cy 0, 720, .inl u27)), ((A 10), .inr (7, [.int 60, .ref (A 11)])), ((A 11), .inl (cy 0, 60, .inl dO)), ((A 12), .inr (3, [.ref (A 13), .int dCc])), ((A 13), .inr (7, [.int 5, .ref (A 14)])), ((A 14), .inl (cy 0, 40, .inl dC)), ((A 15), .inr (7, [.int 5, .ref (A 16)])), ((A 16), .inl (cy 0, 5, .inl u2.2.2))]) K hR [.int p1, .int 6, .int 1] [] 3 rfl rfl (c_X6_add X.2.1 (gxD X) cy sd (A 3) (A 4) 7 42 dM p1 6 1 hw) gX4_makeBale_X6_add rfl yok_X6_add rfl rfl (by decide) rfl (Nat.le_of_ble_eq_true rfl) dX4_makeBale_170 [3, 4] rfl (by decide) (fun _ => rfl) (fun _ => rfl) (fun _ => rfl) ⟨rfl, rfl⟩ (fun u29 hw => ?_)
      refine g_iconst (v := 0) K dX4_makeBale_173 rfl ?_
      refine g_istore (lv' := [(9, .int 0), (8, .int 0), (7, .int u4), (6, .int u3.1), (5, .int u1), (4, .ref (A 8)), (0, .ref (A 0)), (1, .int p0), (2, .int p1), (3, .int p2)]) K dX4_makeBale_174 (by rw [En]; decide) rfl ?_
      obtain ⟨fl, hw⟩ := hw
      have key : ∀ (k176_212 : Int32 → Prop), (∀ (v30 : Int32), k176_212 v30 → Gx X 0 0 [((A 0), .inr (5, [.ref (A 1), .ref (A 3), .ref (A 5), .ref (A 7), .ref (A 12), .ref (A 15), .int dMc, .int u3.2, .int dPc])), ((A 1), .inr (7, [.int 5, .ref (A 2)])), ((A 2), .inl (cy 0, 5, .inl dS)), ((A 3), .inr (7, [.int 7, .ref (A 4)])), ((A 4), .inl (cy 0, 42, .inl u29)), ((A 5), .inr (7, [.int 5, .ref (A 6)])), ((A 6), .inl (cy 0, 50, .inl u2.1)), ((A 7), .inr (2, [.ref (A 8), .ref (A 10), .int x28])), ((A 8), .inr (7, [.int 12, .ref (A 9)])), ((A 9), .inl (cy 0, 720, .inl u27)), ((A 10), .inr (7, [.int 60, .ref (A 11)])), ((A 11), .inl (cy 0, 60, .inl dO)), ((A 12), .inr (3, [.ref (A 13), .int dCc])), ((A 13), .inr (7, [.int 5, .ref (A 14)])), ((A 14), .inl (cy 0, 40, .inl dC)), ((A 15), .inr (7, [.int 5, .ref (A 16)])), ((A 16), .inl (cy 0, 5, .inl u2.2.2))] [(9, .int v30), (8, .int 0), (7, .int u4), (6, .int u3.1), (5, .int u1), (4, .ref (A 8)), (0, .ref (A 0)), (1, .int p0), (2, .int p1), (3, .int p2)] 212 []) → ∀ (n : Nat) (v30 : Int32), wp_X4_makeBale_L176_1 k176_212 n v30 → Gx X 0 0 [((A 0), .inr (5, [.ref (A 1), .ref (A 3), .ref (A 5), .ref (A 7), .ref (A 12), .ref (A 15), .int dMc, .int u3.2, .int dPc])), ((A 1), .inr (7, [.int 5, .ref (A 2)])), ((A 2), .inl (cy 0, 5, .inl dS)), ((A 3), .inr (7, [.int 7, .ref (A 4)])), ((A 4), .inl (cy 0, 42, .inl u29)), ((A 5), .inr (7, [.int 5, .ref (A 6)])), ((A 6), .inl (cy 0, 50, .inl u2.1)), ((A 7), .inr (2, [.ref (A 8), .ref (A 10), .int x28])), ((A 8), .inr (7, [.int 12, .ref (A 9)])), ((A 9), .inl (cy 0, 720, .inl u27)), ((A 10), .inr (7, [.int 60, .ref (A 11)])), ((A 11), .inl (cy 0, 60, .inl dO)), ((A 12), .inr (3, [.ref (A 13), .int dCc])), ((A 13), .inr (7, [.int 5, .ref (A 14)])), ((A 14), .inl (cy 0, 40, .inl dC)), ((A 15), .inr (7, [.int 5, .ref (A 16)])), ((A 16), .inl (cy 0, 5, .inl u2.2.2))] [(9, .int v30), (8, .int 0), (7, .int u4), (6, .int u3.1), (5, .int u1), (4, .ref (A 8)), (0, .ref (A 0)), (1, .int p0), (2, .int p1), (3, .int p2)] 176 [] := by
        intro k176_212 hx212 n
        induction n with
        | zero => intro v30 hw; exact hw.elim
        | succ n ih =>
          intro v30 hw
          refine g_iload K 0 dX4_makeBale_176 rfl ?_
          refine g_iconst (v := 5) K dX4_makeBale_178 rfl ?_
          refine g_icmp_ge (tgt := 212) K dX4_makeBale_179 (by decide) (fun hc => ?_) (fun hc => ?_)
          · replace hw := hw.1 hc
            exact hx212 _ hw
          · replace hw := hw.2 hc
            refine g_iload K 1 dX4_makeBale_182 rfl ?_
            refine g_if_eq (tgt := 212) K dX4_makeBale_184 (by decide) (fun _ => ?_) (fun hc => absurd (by decide) hc)
            exact hx212 _ hw
      refine key _ (fun v31 hw => ?_) fl _ hw
      exact g_vret K E Er (u3.2, u29, u2.1, x28, u27, u2.2.2) hw rfl rfl (Nat.le_refl _) (Nat.le_refl _) dX4_makeBale_212
    · replace hw := hw.2 hc
      refine g_iconst (v := 1) K dX4_makeBale_60 rfl ?_
      refine g_goto (tgt := 65) K dX4_makeBale_61 (by decide) ?_
      refine g_istore (lv' := [(8, .int 1), (7, .int u4), (6, .int u3.1), (5, .int u1), (4, .ref (A 8)), (0, .ref (A 0)), (1, .int p0), (2, .int p1), (3, .int p2)]) K dX4_makeBale_65 (by rw [En]; decide) rfl ?_
      refine g_aload K 4 dX4_makeBale_67 rfl ?_
      refine g_iload_n K 6 dX4_makeBale_69 rfl ?_
      refine g_iconst (v := 5) K dX4_makeBale_70 rfl ?_
      refine g_iload K 3 dX4_makeBale_71 rfl ?_
      refine g_callV (st' := fun u32 => []) (ws' := fun u32 => [((A 0), .inr (5, [.ref (A 1), .ref (A 3), .ref (A 5), .ref (A 7), .ref (A 12), .ref (A 15), .int dMc, .int u3.2, .int dPc])), ((A 1), .inr (7, [.int 5, .ref (A 2)])), ((A 2), .inl (cy 0, 5, .inl dS)), ((A 3), .inr (7, [.int 7, .ref (A 4)])), ((A 4), .inl (cy 0, 42, .inl dM)), ((A 5), .inr (7, [.int 5, .ref (A 6)])), ((A 6), .inl (cy 0, 50, .inl u2.1)), ((A 7), .inr (2, [.ref (A 8), .ref (A 10), .int dBc])), ((A 8), .inr (7, [.int 12, .ref (A 9)])), ((A 9), .inl (cy 0, 720, .inl u32)), ((A 10), .inr (7, [.int 60, .ref (A 11)])), ((A 11), .inl (cy 0, 60, .inl dO)), ((A 12), .inr (3, [.ref (A 13), .int dCc])), ((A 13), .inr (7, [.int 5, .ref (A 14)])), ((A 14), .inl (cy 0, 40, .inl dC)), ((A 15), .inr (7, [.int 5, .ref (A 16)])), ((A 16), .inl (cy 0, 5, .inl u2.2.2))]) K hR [.int p0, .int 5, .int u1] [] 8 rfl rfl (c_X6_put X.2.1 (gxD X) cy sd (A 8) (A 9) 12 720 u2.2.1 p0 5 u1 hw) gX4_makeBale_X6_put rfl yok_X6_put rfl rfl (by decide) rfl (Nat.le_of_ble_eq_true rfl) dX4_makeBale_73 [8, 9] rfl (by decide) (fun _ => rfl) (fun _ => rfl) (fun _ => rfl) ⟨rfl, rfl⟩ (fun u32 hw => ?_)
      refine g_aload K 4 dX4_makeBale_76 rfl ?_
      refine g_iload_n K 6 dX4_makeBale_78 rfl ?_
      refine g_bipush (v := 6) K dX4_makeBale_79 rfl ?_
      refine g_iload_n K 8 dX4_makeBale_81 rfl ?_
      refine g_callV (st' := fun u33 => []) (ws' := fun u33 => [((A 0), .inr (5, [.ref (A 1), .ref (A 3), .ref (A 5), .ref (A 7), .ref (A 12), .ref (A 15), .int dMc, .int u3.2, .int dPc])), ((A 1), .inr (7, [.int 5, .ref (A 2)])), ((A 2), .inl (cy 0, 5, .inl dS)), ((A 3), .inr (7, [.int 7, .ref (A 4)])), ((A 4), .inl (cy 0, 42, .inl dM)), ((A 5), .inr (7, [.int 5, .ref (A 6)])), ((A 6), .inl (cy 0, 50, .inl u2.1)), ((A 7), .inr (2, [.ref (A 8), .ref (A 10), .int dBc])), ((A 8), .inr (7, [.int 12, .ref (A 9)])), ((A 9), .inl (cy 0, 720, .inl u33)), ((A 10), .inr (7, [.int 60, .ref (A 11)])), ((A 11), .inl (cy 0, 60, .inl dO)), ((A 12), .inr (3, [.ref (A 13), .int dCc])), ((A 13), .inr (7, [.int 5, .ref (A 14)])), ((A 14), .inl (cy 0, 40, .inl dC)), ((A 15), .inr (7, [.int 5, .ref (A 16)])), ((A 16), .inl (cy 0, 5, .inl u2.2.2))]) K hR [.int p0, .int 6, .int p2] [] 8 rfl rfl (c_X6_put X.2.1 (gxD X) cy sd (A 8) (A 9) 12 720 u32 p0 6 p2 hw) gX4_makeBale_X6_put rfl yok_X6_put rfl rfl (by decide) rfl (Nat.le_of_ble_eq_true rfl) dX4_makeBale_82 [8, 9] rfl (by decide) (fun _ => rfl) (fun _ => rfl) (fun _ => rfl) ⟨rfl, rfl⟩ (fun u33 hw => ?_)
      refine g_aload K 4 dX4_makeBale_85 rfl ?_
      refine g_iload_n K 6 dX4_makeBale_87 rfl ?_
      refine g_bipush (v := 7) K dX4_makeBale_88 rfl ?_
      refine g_aload K 4 dX4_makeBale_90 rfl ?_
      refine g_iload_n K 6 dX4_makeBale_92 rfl ?_
      refine g_iload K 3 dX4_makeBale_93 rfl ?_
      refine g_callVr (st' := fun u34 => [.int u34, .int 7, .int p0, .ref (A 8)]) K hR [.int p0, .int u1] [.int 7, .int p0, .ref (A 8)] 8 rfl rfl (c_X6_get X.2.1 (gxD X) cy sd (A 8) (A 9) 12 720 u33 p0 u1 hw) gX4_makeBale_X6_get rfl yok_X6_get rfl rfl (by decide) rfl (Nat.le_of_ble_eq_true rfl) dX4_makeBale_95 [8, 9] rfl (by decide) (fun _ => rfl) ⟨rfl, rfl⟩ (fun u34 hw => ?_)
      refine g_iload_n K 8 dX4_makeBale_98 rfl ?_
      refine g_callSNr (st' := fun u35 => [.int u35, .int 7, .int p0, .ref (A 8)]) K hR [.int u34, .int p2] [.int 7, .int p0, .ref (A 8)] RX8 (by decide +kernel) (by decide +kernel) (by decide +kernel) (c_X8_perThousand X.2.1 (gxD X) cy sd u34 p2 hw) gX4_makeBale_X8_perThousand_n151 rfl yok_X8_perThousand rfl (by decide) rfl (Nat.le_of_ble_eq_true rfl) dX4_makeBale_99 [] rfl (by decide) (fun _ => rfl) ⟨rfl, rfl⟩ (fun u35 hw => ?_)
      refine g_callV (st' := fun u36 => []) (ws' := fun u36 => [((A 0), .inr (5, [.ref (A 1), .ref (A 3), .ref (A 5), .ref (A 7), .ref (A 12), .ref (A 15), .int dMc, .int u3.2, .int dPc])), ((A 1), .inr (7, [.int 5, .ref (A 2)])), ((A 2), .inl (cy 0, 5, .inl dS)), ((A 3), .inr (7, [.int 7, .ref (A 4)])), ((A 4), .inl (cy 0, 42, .inl dM)), ((A 5), .inr (7, [.int 5, .ref (A 6)])), ((A 6), .inl (cy 0, 50, .inl u2.1)), ((A 7), .inr (2, [.ref (A 8), .ref (A 10), .int dBc])), ((A 8), .inr (7, [.int 12, .ref (A 9)])), ((A 9), .inl (cy 0, 720, .inl u36)), ((A 10), .inr (7, [.int 60, .ref (A 11)])), ((A 11), .inl (cy 0, 60, .inl dO)), ((A 12), .inr (3, [.ref (A 13), .int dCc])), ((A 13), .inr (7, [.int 5, .ref (A 14)])), ((A 14), .inl (cy 0, 40, .inl dC)), ((A 15), .inr (7, [.int 5, .ref (A 16)])), ((A 16), .inl (cy 0, 5, .inl u2.2.2))]) K hR [.int p0, .int 7, .int u35] [] 8 rfl rfl (c_X6_put X.2.1 (gxD X) cy sd (A 8) (A 9) 12 720 u33 p0 7 u35 hw) gX4_makeBale_X6_put rfl yok_X6_put rfl rfl (by decide) rfl (Nat.le_of_ble_eq_true rfl) dX4_makeBale_102 [8, 9] rfl (by decide) (fun _ => rfl) (fun _ => rfl) (fun _ => rfl) ⟨rfl, rfl⟩ (fun u36 hw => ?_)
      refine g_aload K 4 dX4_makeBale_105 rfl ?_
      refine g_iload_n K 6 dX4_makeBale_107 rfl ?_
      refine g_bipush (v := 8) K dX4_makeBale_108 rfl ?_
      refine g_iload K 2 dX4_makeBale_110 rfl ?_
      refine g_callV (st' := fun u37 => []) (ws' := fun u37 => [((A 0), .inr (5, [.ref (A 1), .ref (A 3), .ref (A 5), .ref (A 7), .ref (A 12), .ref (A 15), .int dMc, .int u3.2, .int dPc])), ((A 1), .inr (7, [.int 5, .ref (A 2)])), ((A 2), .inl (cy 0, 5, .inl dS)), ((A 3), .inr (7, [.int 7, .ref (A 4)])), ((A 4), .inl (cy 0, 42, .inl dM)), ((A 5), .inr (7, [.int 5, .ref (A 6)])), ((A 6), .inl (cy 0, 50, .inl u2.1)), ((A 7), .inr (2, [.ref (A 8), .ref (A 10), .int dBc])), ((A 8), .inr (7, [.int 12, .ref (A 9)])), ((A 9), .inl (cy 0, 720, .inl u37)), ((A 10), .inr (7, [.int 60, .ref (A 11)])), ((A 11), .inl (cy 0, 60, .inl dO)), ((A 12), .inr (3, [.ref (A 13), .int dCc])), ((A 13), .inr (7, [.int 5, .ref (A 14)])), ((A 14), .inl (cy 0, 40, .inl dC)), ((A 15), .inr (7, [.int 5, .ref (A 16)])), ((A 16), .inl (cy 0, 5, .inl u2.2.2))]) K hR [.int p0, .int 8, .int u3.1] [] 8 rfl rfl (c_X6_put X.2.1 (gxD X) cy sd (A 8) (A 9) 12 720 u36 p0 8 u3.1 hw) gX4_makeBale_X6_put rfl yok_X6_put rfl rfl (by decide) rfl (Nat.le_of_ble_eq_true rfl) dX4_makeBale_112 [8, 9] rfl (by decide) (fun _ => rfl) (fun _ => rfl) (fun _ => rfl) ⟨rfl, rfl⟩ (fun u37 hw => ?_)
      refine g_aload K 4 dX4_makeBale_115 rfl ?_
      refine g_iload_n K 6 dX4_makeBale_117 rfl ?_
      refine g_bipush (v := 9) K dX4_makeBale_118 rfl ?_
      refine g_iload K 1 dX4_makeBale_120 rfl ?_
      refine g_callV (st' := fun u38 => []) (ws' := fun u38 => [((A 0), .inr (5, [.ref (A 1), .ref (A 3), .ref (A 5), .ref (A 7), .ref (A 12), .ref (A 15), .int dMc, .int u3.2, .int dPc])), ((A 1), .inr (7, [.int 5, .ref (A 2)])), ((A 2), .inl (cy 0, 5, .inl dS)), ((A 3), .inr (7, [.int 7, .ref (A 4)])), ((A 4), .inl (cy 0, 42, .inl dM)), ((A 5), .inr (7, [.int 5, .ref (A 6)])), ((A 6), .inl (cy 0, 50, .inl u2.1)), ((A 7), .inr (2, [.ref (A 8), .ref (A 10), .int dBc])), ((A 8), .inr (7, [.int 12, .ref (A 9)])), ((A 9), .inl (cy 0, 720, .inl u38)), ((A 10), .inr (7, [.int 60, .ref (A 11)])), ((A 11), .inl (cy 0, 60, .inl dO)), ((A 12), .inr (3, [.ref (A 13), .int dCc])), ((A 13), .inr (7, [.int 5, .ref (A 14)])), ((A 14), .inl (cy 0, 40, .inl dC)), ((A 15), .inr (7, [.int 5, .ref (A 16)])), ((A 16), .inl (cy 0, 5, .inl u2.2.2))]) K hR [.int p0, .int 9, .int u4] [] 8 rfl rfl (c_X6_put X.2.1 (gxD X) cy sd (A 8) (A 9) 12 720 u37 p0 9 u4 hw) gX4_makeBale_X6_put rfl yok_X6_put rfl rfl (by decide) rfl (Nat.le_of_ble_eq_true rfl) dX4_makeBale_122 [8, 9] rfl (by decide) (fun _ => rfl) (fun _ => rfl) (fun _ => rfl) ⟨rfl, rfl⟩ (fun u38 hw => ?_)
      refine g_aload K 4 dX4_makeBale_125 rfl ?_
      refine g_iload_n K 6 dX4_makeBale_127 rfl ?_
      refine g_bipush (v := 10) K dX4_makeBale_128 rfl ?_
      refine g_iload K 0 dX4_makeBale_130 rfl ?_
      refine g_if_eq (tgt := 139) K dX4_makeBale_132 (by decide) (fun hc => absurd hc (by decide)) (fun _ => ?_)
      refine g_iconst (v := 2) K dX4_makeBale_135 rfl ?_
      refine g_goto (tgt := 140) K dX4_makeBale_136 (by decide) ?_
      refine g_callV (st' := fun u39 => []) (ws' := fun u39 => [((A 0), .inr (5, [.ref (A 1), .ref (A 3), .ref (A 5), .ref (A 7), .ref (A 12), .ref (A 15), .int dMc, .int u3.2, .int dPc])), ((A 1), .inr (7, [.int 5, .ref (A 2)])), ((A 2), .inl (cy 0, 5, .inl dS)), ((A 3), .inr (7, [.int 7, .ref (A 4)])), ((A 4), .inl (cy 0, 42, .inl dM)), ((A 5), .inr (7, [.int 5, .ref (A 6)])), ((A 6), .inl (cy 0, 50, .inl u2.1)), ((A 7), .inr (2, [.ref (A 8), .ref (A 10), .int dBc])), ((A 8), .inr (7, [.int 12, .ref (A 9)])), ((A 9), .inl (cy 0, 720, .inl u39)), ((A 10), .inr (7, [.int 60, .ref (A 11)])), ((A 11), .inl (cy 0, 60, .inl dO)), ((A 12), .inr (3, [.ref (A 13), .int dCc])), ((A 13), .inr (7, [.int 5, .ref (A 14)])), ((A 14), .inl (cy 0, 40, .inl dC)), ((A 15), .inr (7, [.int 5, .ref (A 16)])), ((A 16), .inl (cy 0, 5, .inl u2.2.2))]) K hR [.int p0, .int 10, .int 2] [] 8 rfl rfl (c_X6_put X.2.1 (gxD X) cy sd (A 8) (A 9) 12 720 u38 p0 10 2 hw) gX4_makeBale_X6_put rfl yok_X6_put rfl rfl (by decide) rfl (Nat.le_of_ble_eq_true rfl) dX4_makeBale_140 [8, 9] rfl (by decide) (fun _ => rfl) (fun _ => rfl) (fun _ => rfl) ⟨rfl, rfl⟩ (fun u39 hw => ?_)
      refine g_aload K 4 dX4_makeBale_143 rfl ?_
      refine g_iload_n K 6 dX4_makeBale_145 rfl ?_
      refine g_bipush (v := 11) K dX4_makeBale_146 rfl ?_
      refine g_iconst (v := (-1)) K dX4_makeBale_148 rfl ?_
      refine g_callV (st' := fun u40 => []) (ws' := fun u40 => [((A 0), .inr (5, [.ref (A 1), .ref (A 3), .ref (A 5), .ref (A 7), .ref (A 12), .ref (A 15), .int dMc, .int u3.2, .int dPc])), ((A 1), .inr (7, [.int 5, .ref (A 2)])), ((A 2), .inl (cy 0, 5, .inl dS)), ((A 3), .inr (7, [.int 7, .ref (A 4)])), ((A 4), .inl (cy 0, 42, .inl dM)), ((A 5), .inr (7, [.int 5, .ref (A 6)])), ((A 6), .inl (cy 0, 50, .inl u2.1)), ((A 7), .inr (2, [.ref (A 8), .ref (A 10), .int dBc])), ((A 8), .inr (7, [.int 12, .ref (A 9)])), ((A 9), .inl (cy 0, 720, .inl u40)), ((A 10), .inr (7, [.int 60, .ref (A 11)])), ((A 11), .inl (cy 0, 60, .inl dO)), ((A 12), .inr (3, [.ref (A 13), .int dCc])), ((A 13), .inr (7, [.int 5, .ref (A 14)])), ((A 14), .inl (cy 0, 40, .inl dC)), ((A 15), .inr (7, [.int 5, .ref (A 16)])), ((A 16), .inl (cy 0, 5, .inl u2.2.2))]) K hR [.int p0, .int 11, .int (-1)] [] 8 rfl rfl (c_X6_put X.2.1 (gxD X) cy sd (A 8) (A 9) 12 720 u39 p0 11 (-1) hw) gX4_makeBale_X6_put rfl yok_X6_put rfl rfl (by decide) rfl (Nat.le_of_ble_eq_true rfl) dX4_makeBale_149 [8, 9] rfl (by decide) (fun _ => rfl) (fun _ => rfl) (fun _ => rfl) ⟨rfl, rfl⟩ (fun u40 hw => ?_)
      refine g_aload_n K 5 dX4_makeBale_152 rfl ?_
      refine g_get K (C := RX4) (T := TX4) (N := 9) 0 3 in_X4_makeBale_X4 (by decide +kernel) rfl rfl (by decide) rfl dX4_makeBale_153 ?_
      refine g_iload_n K 6 dX4_makeBale_156 rfl ?_
      refine g_iconst (v := 1) K dX4_makeBale_157 rfl ?_
      refine g_iadd K dX4_makeBale_158 ?_
      refine g_topi (fun x41 ex41 => ?_)
      replace hw := hw x41 ex41
      refine g_put (ty := .int) (ws' := [((A 0), .inr (5, [.ref (A 1), .ref (A 3), .ref (A 5), .ref (A 7), .ref (A 12), .ref (A 15), .int dMc, .int u3.2, .int dPc])), ((A 1), .inr (7, [.int 5, .ref (A 2)])), ((A 2), .inl (cy 0, 5, .inl dS)), ((A 3), .inr (7, [.int 7, .ref (A 4)])), ((A 4), .inl (cy 0, 42, .inl dM)), ((A 5), .inr (7, [.int 5, .ref (A 6)])), ((A 6), .inl (cy 0, 50, .inl u2.1)), ((A 7), .inr (2, [.ref (A 8), .ref (A 10), .int x41])), ((A 8), .inr (7, [.int 12, .ref (A 9)])), ((A 9), .inl (cy 0, 720, .inl u40)), ((A 10), .inr (7, [.int 60, .ref (A 11)])), ((A 11), .inl (cy 0, 60, .inl dO)), ((A 12), .inr (3, [.ref (A 13), .int dCc])), ((A 13), .inr (7, [.int 5, .ref (A 14)])), ((A 14), .inl (cy 0, 40, .inl dC)), ((A 15), .inr (7, [.int 5, .ref (A 16)])), ((A 16), .inl (cy 0, 5, .inl u2.2.2))]) K (C := RX0) (T := TX0) (N := 3) 7 2 in_X4_makeBale_X0 tyX0 tyX0_ok nmX0 (by decide +kernel) rfl rfl (by decide) rfl (by decide +kernel) rfl rfl (Nat.le_of_ble_eq_true rfl) rfl dX4_makeBale_159 ?_
      refine g_aload_n K 5 dX4_makeBale_162 rfl ?_
      refine g_get K (C := RX4) (T := TX4) (N := 9) 0 1 in_X4_makeBale_X4 (by decide +kernel) rfl rfl (by decide) rfl dX4_makeBale_163 ?_
      refine g_iload_n K 7 dX4_makeBale_166 rfl ?_
      refine g_bipush (v := 6) K dX4_makeBale_167 rfl ?_
      refine g_iconst (v := 1) K dX4_makeBale_169 rfl ?_
      refine g_callV (st' := fun u42 => []) (ws' := fun u42 => [((A 0), .inr (5, [.ref (A 1), .ref (A 3), .ref (A 5), .ref (A 7), .ref (A 12), .ref (A 15), .int dMc, .int u3.2, .int dPc])), ((A 1), .inr (7, [.int 5, .ref (A 2)])), ((A 2), .inl (cy 0, 5, .inl dS)), ((A 3), .inr (7, [.int 7, .ref (A 4)])), ((A 4), .inl (cy 0, 42, .inl u42)), ((A 5), .inr (7, [.int 5, .ref (A 6)])), ((A 6), .inl (cy 0, 50, .inl u2.1)), ((A 7), .inr (2, [.ref (A 8), .ref (A 10), .int x41])), ((A 8), .inr (7, [.int 12, .ref (A 9)])), ((A 9), .inl (cy 0, 720, .inl u40)), ((A 10), .inr (7, [.int 60, .ref (A 11)])), ((A 11), .inl (cy 0, 60, .inl dO)), ((A 12), .inr (3, [.ref (A 13), .int dCc])), ((A 13), .inr (7, [.int 5, .ref (A 14)])), ((A 14), .inl (cy 0, 40, .inl dC)), ((A 15), .inr (7, [.int 5, .ref (A 16)])), ((A 16), .inl (cy 0, 5, .inl u2.2.2))]) K hR [.int p1, .int 6, .int 1] [] 3 rfl rfl (c_X6_add X.2.1 (gxD X) cy sd (A 3) (A 4) 7 42 dM p1 6 1 hw) gX4_makeBale_X6_add rfl yok_X6_add rfl rfl (by decide) rfl (Nat.le_of_ble_eq_true rfl) dX4_makeBale_170 [3, 4] rfl (by decide) (fun _ => rfl) (fun _ => rfl) (fun _ => rfl) ⟨rfl, rfl⟩ (fun u42 hw => ?_)
      refine g_iconst (v := 0) K dX4_makeBale_173 rfl ?_
      refine g_istore (lv' := [(9, .int 0), (8, .int 1), (7, .int u4), (6, .int u3.1), (5, .int u1), (4, .ref (A 8)), (0, .ref (A 0)), (1, .int p0), (2, .int p1), (3, .int p2)]) K dX4_makeBale_174 (by rw [En]; decide) rfl ?_
      obtain ⟨fl, hw⟩ := hw
      have key : ∀ (k176_212 : Int32 → XRow → Prop), (∀ (v43 : Int32) (v44 : XRow), k176_212 v43 v44 → Gx X 0 0 [((A 0), .inr (5, [.ref (A 1), .ref (A 3), .ref (A 5), .ref (A 7), .ref (A 12), .ref (A 15), .int dMc, .int u3.2, .int dPc])), ((A 1), .inr (7, [.int 5, .ref (A 2)])), ((A 2), .inl (cy 0, 5, .inl dS)), ((A 3), .inr (7, [.int 7, .ref (A 4)])), ((A 4), .inl (cy 0, 42, .inl u42)), ((A 5), .inr (7, [.int 5, .ref (A 6)])), ((A 6), .inl (cy 0, 50, .inl v44)), ((A 7), .inr (2, [.ref (A 8), .ref (A 10), .int x41])), ((A 8), .inr (7, [.int 12, .ref (A 9)])), ((A 9), .inl (cy 0, 720, .inl u40)), ((A 10), .inr (7, [.int 60, .ref (A 11)])), ((A 11), .inl (cy 0, 60, .inl dO)), ((A 12), .inr (3, [.ref (A 13), .int dCc])), ((A 13), .inr (7, [.int 5, .ref (A 14)])), ((A 14), .inl (cy 0, 40, .inl dC)), ((A 15), .inr (7, [.int 5, .ref (A 16)])), ((A 16), .inl (cy 0, 5, .inl u2.2.2))] [(9, .int v43), (8, .int 1), (7, .int u4), (6, .int u3.1), (5, .int u1), (4, .ref (A 8)), (0, .ref (A 0)), (1, .int p0), (2, .int p1), (3, .int p2)] 212 []) → ∀ (n : Nat) (v43 : Int32) (v44 : XRow), wp_X4_makeBale_L176_2 p0 u40 k176_212 n v43 v44 → Gx X 0 0 [((A 0), .inr (5, [.ref (A 1), .ref (A 3), .ref (A 5), .ref (A 7), .ref (A 12), .ref (A 15), .int dMc, .int u3.2, .int dPc])), ((A 1), .inr (7, [.int 5, .ref (A 2)])), ((A 2), .inl (cy 0, 5, .inl dS)), ((A 3), .inr (7, [.int 7, .ref (A 4)])), ((A 4), .inl (cy 0, 42, .inl u42)), ((A 5), .inr (7, [.int 5, .ref (A 6)])), ((A 6), .inl (cy 0, 50, .inl v44)), ((A 7), .inr (2, [.ref (A 8), .ref (A 10), .int x41])), ((A 8), .inr (7, [.int 12, .ref (A 9)])), ((A 9), .inl (cy 0, 720, .inl u40)), ((A 10), .inr (7, [.int 60, .ref (A 11)])), ((A 11), .inl (cy 0, 60, .inl dO)), ((A 12), .inr (3, [.ref (A 13), .int dCc])), ((A 13), .inr (7, [.int 5, .ref (A 14)])), ((A 14), .inl (cy 0, 40, .inl dC)), ((A 15), .inr (7, [.int 5, .ref (A 16)])), ((A 16), .inl (cy 0, 5, .inl u2.2.2))] [(9, .int v43), (8, .int 1), (7, .int u4), (6, .int u3.1), (5, .int u1), (4, .ref (A 8)), (0, .ref (A 0)), (1, .int p0), (2, .int p1), (3, .int p2)] 176 [] := by
        intro k176_212 hx212 n
        induction n with
        | zero => intro v43 v44 hw; exact hw.elim
        | succ n ih =>
          intro v43 v44 hw
          refine g_iload K 0 dX4_makeBale_176 rfl ?_
          refine g_iconst (v := 5) K dX4_makeBale_178 rfl ?_
          refine g_icmp_ge (tgt := 212) K dX4_makeBale_179 (by decide) (fun hc => ?_) (fun hc => ?_)
          · replace hw := hw.1 hc
            exact hx212 _ _ hw
          · replace hw := hw.2 hc
            refine g_iload K 1 dX4_makeBale_182 rfl ?_
            refine g_if_eq (tgt := 212) K dX4_makeBale_184 (by decide) (fun hc => absurd hc (by decide)) (fun _ => ?_)
            refine g_aload_n K 6 dX4_makeBale_187 rfl ?_
            refine g_get K (C := RX4) (T := TX4) (N := 9) 0 2 in_X4_makeBale_X4 (by decide +kernel) rfl rfl (by decide) rfl dX4_makeBale_188 ?_
            refine g_bipush (v := 6) K dX4_makeBale_191 rfl ?_
            refine g_iload K 0 dX4_makeBale_193 rfl ?_
            refine g_aload K 5 dX4_makeBale_195 rfl ?_
            refine g_iload_n K 7 dX4_makeBale_197 rfl ?_
            refine g_iload K 0 dX4_makeBale_198 rfl ?_
            refine g_callVr (st' := fun u45 => [.int u45, .int v43, .int 6, .ref (A 5)]) K hR [.int p0, .int v43] [.int v43, .int 6, .ref (A 5)] 8 rfl rfl (c_X6_get X.2.1 (gxD X) cy sd (A 8) (A 9) 12 720 u40 p0 v43 hw) gX4_makeBale_X6_get rfl yok_X6_get rfl rfl (by decide) rfl (Nat.le_of_ble_eq_true rfl) dX4_makeBale_200 [8, 9] rfl (by decide) (fun _ => rfl) ⟨rfl, rfl⟩ (fun u45 hw => ?_)
            refine g_callV (st' := fun u46 => []) (ws' := fun u46 => [((A 0), .inr (5, [.ref (A 1), .ref (A 3), .ref (A 5), .ref (A 7), .ref (A 12), .ref (A 15), .int dMc, .int u3.2, .int dPc])), ((A 1), .inr (7, [.int 5, .ref (A 2)])), ((A 2), .inl (cy 0, 5, .inl dS)), ((A 3), .inr (7, [.int 7, .ref (A 4)])), ((A 4), .inl (cy 0, 42, .inl u42)), ((A 5), .inr (7, [.int 5, .ref (A 6)])), ((A 6), .inl (cy 0, 50, .inl u46)), ((A 7), .inr (2, [.ref (A 8), .ref (A 10), .int x41])), ((A 8), .inr (7, [.int 12, .ref (A 9)])), ((A 9), .inl (cy 0, 720, .inl u40)), ((A 10), .inr (7, [.int 60, .ref (A 11)])), ((A 11), .inl (cy 0, 60, .inl dO)), ((A 12), .inr (3, [.ref (A 13), .int dCc])), ((A 13), .inr (7, [.int 5, .ref (A 14)])), ((A 14), .inl (cy 0, 40, .inl dC)), ((A 15), .inr (7, [.int 5, .ref (A 16)])), ((A 16), .inl (cy 0, 5, .inl u2.2.2))]) K hR [.int 6, .int v43, .int u45] [] 5 rfl rfl (c_X6_add X.2.1 (gxD X) cy sd (A 5) (A 6) 5 50 v44 6 v43 u45 hw) gX4_makeBale_X6_add rfl yok_X6_add rfl rfl (by decide) rfl (Nat.le_of_ble_eq_true rfl) dX4_makeBale_203 [5, 6] rfl (by decide) (fun _ => rfl) (fun _ => rfl) (fun _ => rfl) ⟨rfl, rfl⟩ (fun u46 hw => ?_)
            obtain ⟨x47, ex47⟩ : ∃ z : Int32, z = v43 + 1 := ⟨_, rfl⟩
            replace hw := hw x47 ex47
            refine g_iinc (v := x47) (lv' := [(9, .int x47), (8, .int 1), (7, .int u4), (6, .int u3.1), (5, .int u1), (4, .ref (A 8)), (0, .ref (A 0)), (1, .int p0), (2, .int p1), (3, .int p2)]) K 0 dX4_makeBale_206 rfl (by rw [ex47]; rfl) (by rw [En]; decide) rfl ?_
            refine g_goto (tgt := 176) K dX4_makeBale_209 (by decide) ?_
            exact ih _ _ hw
      refine key _ (fun v48 v49 hw => ?_) fl _ _ hw
      exact g_vret K E Er (u3.2, u42, v49, x41, u40, u2.2.2) hw rfl rfl (Nat.le_refl _) (Nat.le_refl _) dX4_makeBale_212

def wp_X4_makePass_L41 (dM : XRow) (dMc : Int32) (k41_63 : Int32 → Int32 → XRow → Prop) : Nat → Int32 → Int32 → XRow → Prop
  | 0, _, _, _ => False
  | fu + 1, v4, v5, v6 => (dMc ≤ v4 → (k41_63 v4 v5 v6)) ∧ (¬ dMc ≤ v4 → (wp_X4_sortOut dM v6 v4 (fun u7 : Int32 × XRow => ∀ x8 : Int32, x8 = v5 + u7.1 → (∀ x9 : Int32, x9 = v4 + 1 → (wp_X4_makePass_L41 dM dMc k41_63 fu x9 x8 u7.2)))))
def wp_X4_makePass_L96 (dS : XRow) (v15 : Int32) (u22 : Int32) (k96_131 : Int32 → Int32 → XRow → XRow → Int32 → XRow → XRow → Prop) : Nat → Int32 → Int32 → XRow → XRow → Int32 → XRow → XRow → Prop
  | 0, _, _, _, _, _, _, _ => False
  | fu + 1, v23, v24, v25, v26, v27, v28, v29 => (60 ≤ v23 → (k96_131 v23 v24 v25 v26 v27 v28 v29)) ∧ (¬ 60 ≤ v23 → (wp_X6_sum 5 50 v26 v15 (fun u30 : Int32 => (u30 < u22 → (k96_131 v23 v24 v25 v26 v27 v28 v29)) ∧ (¬ u30 < u22 → (wp_X4_makeBale dS v25 v26 v28 v29 v24 v23 v15 u22 (fun u31 : Int32 × XRow × XRow × Int32 × XRow × XRow => ∀ x32 : Int32, x32 = v23 + 1 → (wp_X4_makePass_L96 dS v15 u22 k96_131 fu x32 u31.1 u31.2.1 u31.2.2.1 u31.2.2.2.1 u31.2.2.2.2.1 u31.2.2.2.2.2)))))))
def wp_X4_makePass_L72 (dS : XRow) (dMc : Int32) (k72_137 : Int32 → Int32 → XRow → XRow → Int32 → XRow → XRow → Prop) : Nat → Int32 → Int32 → XRow → XRow → Int32 → XRow → XRow → Prop
  | 0, _, _, _, _, _, _, _ => False
  | fu + 1, v15, v16, v17, v18, v19, v20, v21 => (dMc ≤ v15 → (k72_137 v15 v16 v17 v18 v19 v20 v21)) ∧ (¬ dMc ≤ v15 → (wp_X4_setting dS 2 (fun u22 : Int32 => ∃ fl, wp_X4_makePass_L96 dS v15 u22 (fun (v33 : Int32) (v34 : Int32) (v35 : XRow) (v36 : XRow) (v37 : Int32) (v38 : XRow) (v39 : XRow) => ∀ x40 : Int32, x40 = v15 + 1 → (wp_X4_makePass_L72 dS dMc k72_137 fu x40 v34 v35 v36 v37 v38 v39)) fl v19 v16 v17 v18 v19 v20 v21)))
def wp_X4_makePass (dS : XRow) (dM : XRow) (dP : XRow) (dN : XRow) (dBc : Int32) (dR : XRow) (dMc : Int32) (dZ : Int32) (post : (Bool × Int32 × XRow × XRow × Int32 × XRow × XRow) → Prop) : Prop := wp_X4_setting dS 0 (fun u1 : Int32 => wp_X6_sum 5 50 dP 6 (fun u2 : Int32 => wp_X4_takeShare_o5 dP dR 6 (xMin u1 u2) 9 (fun u3 : XRow × XRow => ∃ fl, wp_X4_makePass_L41 dM dMc (fun (v10 : Int32) (v11 : Int32) (v12 : XRow) => wp_X4_clearBelt dS v12 (fun u13 : Int32 × XRow => ∀ x14 : Int32, x14 = v11 + u13.1 → (∃ fl, wp_X4_makePass_L72 dS dMc (fun (v41 : Int32) (v42 : Int32) (v43 : XRow) (v44 : XRow) (v45 : Int32) (v46 : XRow) (v47 : XRow) => (0 < x14 → (post (true, v42, v43, v44, v45, v46, v47))) ∧ (¬ 0 < x14 → ((v45 ≤ dBc → (post (false, v42, v43, v44, v45, v46, v47))) ∧ (¬ v45 ≤ dBc → (post (true, v42, v43, v44, v45, v46, v47)))))) fl 0 dZ dM u13.2 dBc dN u3.2))) fl 0 0 u3.1)))
theorem in_X4_makePass_X0 : ∀ w ∈ u_ws RX0 TX0 3, w ∈ wsX4_makePass := by decide +kernel
theorem in_X4_makePass_X4 : ∀ w ∈ u_ws RX4 TX4 9, w ∈ wsX4_makePass := by decide +kernel
set_option maxRecDepth 100000 in
set_option maxHeartbeats 4000000 in
theorem c_X4_makePass (l : Launch) (D : va_G) (cy : Nat → ClassId) (sd : xSd) (A : Nat → Nat) (dS : XRow) (dM : XRow) (dP : XRow) (dN : XRow) (dBc : Int32) (dO : XRow) (dC : XRow) (dCc : Int32) (dR : XRow) (dMc : Int32) (dZ : Int32) (dPc : Int32) {post : (Bool × Int32 × XRow × XRow × Int32 × XRow × XRow) → Prop} (hw : wp_X4_makePass dS dM dP dN dBc dR dMc dZ post) : Ctr l D (xTys cy) sd yX4_makePass wsX4_makePass ({ frames := 4, cells := 0, slots := 0, locals := 106 } : Room) [.ref (A 0)] (fun u : Bool × Int32 × XRow × XRow × Int32 × XRow × XRow => some (.int (bI u.1))) [((A 0), .inr (5, [.ref (A 1), .ref (A 3), .ref (A 5), .ref (A 7), .ref (A 12), .ref (A 15), .int dMc, .int dZ, .int dPc])), ((A 1), .inr (7, [.int 5, .ref (A 2)])), ((A 2), .inl (cy 0, 5, .inl dS)), ((A 3), .inr (7, [.int 7, .ref (A 4)])), ((A 4), .inl (cy 0, 42, .inl dM)), ((A 5), .inr (7, [.int 5, .ref (A 6)])), ((A 6), .inl (cy 0, 50, .inl dP)), ((A 7), .inr (2, [.ref (A 8), .ref (A 10), .int dBc])), ((A 8), .inr (7, [.int 12, .ref (A 9)])), ((A 9), .inl (cy 0, 720, .inl dN)), ((A 10), .inr (7, [.int 60, .ref (A 11)])), ((A 11), .inl (cy 0, 60, .inl dO)), ((A 12), .inr (3, [.ref (A 13), .int dCc])), ((A 13), .inr (7, [.int 5, .ref (A 14)])), ((A 14), .inl (cy 0, 40, .inl dC)), ((A 15), .inr (7, [.int 5, .ref (A 16)])), ((A 16), .inl (cy 0, 5, .inl dR))] (fun u => [((A 0), .inr (5, [.ref (A 1), .ref (A 3), .ref (A 5), .ref (A 7), .ref (A 12), .ref (A 15), .int dMc, .int u.2.1, .int dPc])), ((A 1), .inr (7, [.int 5, .ref (A 2)])), ((A 2), .inl (cy 0, 5, .inl dS)), ((A 3), .inr (7, [.int 7, .ref (A 4)])), ((A 4), .inl (cy 0, 42, .inl u.2.2.1)), ((A 5), .inr (7, [.int 5, .ref (A 6)])), ((A 6), .inl (cy 0, 50, .inl u.2.2.2.1)), ((A 7), .inr (2, [.ref (A 8), .ref (A 10), .int u.2.2.2.2.1])), ((A 8), .inr (7, [.int 12, .ref (A 9)])), ((A 9), .inl (cy 0, 720, .inl u.2.2.2.2.2.1)), ((A 10), .inr (7, [.int 60, .ref (A 11)])), ((A 11), .inl (cy 0, 60, .inl dO)), ((A 12), .inr (3, [.ref (A 13), .int dCc])), ((A 13), .inr (7, [.int 5, .ref (A 14)])), ((A 14), .inl (cy 0, 40, .inl dC)), ((A 15), .inr (7, [.int 5, .ref (A 16)])), ((A 16), .inl (cy 0, 5, .inl u.2.2.2.2.2.2))]) post := by
  refine Ctr.of (cc := cX4_makePass) (maxL := 6) (ret := (some .boolean)) (lv0 := [(0, .ref (A 0))]) (by decide) rfl (Nat.le_of_ble_eq_true rfl) rfl ?_
  intro X El hR Er Enm ED E En K
  have K : Cx X cX4_makePass RX4 wsX4_makePass (xTys cy) sd := K
  have E : X.2.2.2.2.2.2.2.2.2.2.1 = xMQ X (fun u : Bool × Int32 × XRow × XRow × Int32 × XRow × XRow => some (.int (bI u.1))) post (fun u => [((A 0), .inr (5, [.ref (A 1), .ref (A 3), .ref (A 5), .ref (A 7), .ref (A 12), .ref (A 15), .int dMc, .int u.2.1, .int dPc])), ((A 1), .inr (7, [.int 5, .ref (A 2)])), ((A 2), .inl (cy 0, 5, .inl dS)), ((A 3), .inr (7, [.int 7, .ref (A 4)])), ((A 4), .inl (cy 0, 42, .inl u.2.2.1)), ((A 5), .inr (7, [.int 5, .ref (A 6)])), ((A 6), .inl (cy 0, 50, .inl u.2.2.2.1)), ((A 7), .inr (2, [.ref (A 8), .ref (A 10), .int u.2.2.2.2.1])), ((A 8), .inr (7, [.int 12, .ref (A 9)])), ((A 9), .inl (cy 0, 720, .inl u.2.2.2.2.2.1)), ((A 10), .inr (7, [.int 60, .ref (A 11)])), ((A 11), .inl (cy 0, 60, .inl dO)), ((A 12), .inr (3, [.ref (A 13), .int dCc])), ((A 13), .inr (7, [.int 5, .ref (A 14)])), ((A 14), .inl (cy 0, 40, .inl dC)), ((A 15), .inr (7, [.int 5, .ref (A 16)])), ((A 16), .inl (cy 0, 5, .inl u.2.2.2.2.2.2))]) 0 0 := E
  unfold wp_X4_makePass at hw
  refine g_aload_n K 0 dX4_makePass_0 rfl ?_
  refine g_get K (C := RX4) (T := TX4) (N := 9) 0 3 in_X4_makePass_X4 (by decide +kernel) rfl rfl (by decide) rfl dX4_makePass_1 ?_
  refine g_get K (C := RX0) (T := TX0) (N := 3) 7 2 in_X4_makePass_X0 (by decide +kernel) rfl rfl (by decide) rfl dX4_makePass_4 ?_
  refine g_istore_n (lv' := [(1, .int dBc), (0, .ref (A 0))]) K dX4_makePass_7 rfl (by rw [En]; decide) rfl ?_
  refine g_aload_n K 1 dX4_makePass_8 rfl ?_
  refine g_bipush (v := 6) K dX4_makePass_9 rfl ?_
  refine g_aload_n K 1 dX4_makePass_11 rfl ?_
  refine g_iconst (v := 0) K dX4_makePass_12 rfl ?_
  refine g_callVr (st' := fun u1 => [.int u1, .int 6, .ref (A 0)]) K hR [.int 0] [.int 6, .ref (A 0)] 0 rfl rfl (c_X4_setting X.2.1 (gxD X) cy sd A dS dM dP dN dBc dO dC dCc dR dMc dZ dPc 0 hw) gX4_makePass_X4_setting rfl yok_X4_setting rfl rfl (by decide) rfl (Nat.le_of_ble_eq_true rfl) dX4_makePass_13 [0, 1, 2, 3, 4, 5, 6, 7, 8, 9, 10, 11, 12, 13, 14, 15, 16] rfl (by decide) (fun _ => rfl) ⟨rfl, rfl⟩ (fun u1 hw => ?_)
  refine g_aload_n K 1 dX4_makePass_16 rfl ?_
  refine g_get K (C := RX4) (T := TX4) (N := 9) 0 2 in_X4_makePass_X4 (by decide +kernel) rfl rfl (by decide) rfl dX4_makePass_17 ?_
  refine g_bipush (v := 6) K dX4_makePass_20 rfl ?_
  refine g_callVr (st' := fun u2 => [.int u2, .int u1, .int 6, .ref (A 0)]) K hR [.int 6] [.int u1, .int 6, .ref (A 0)] 5 rfl rfl (c_X6_sum X.2.1 (gxD X) cy sd (A 5) (A 6) 5 50 dP 6 hw) gX4_makePass_X6_sum rfl yok_X6_sum rfl rfl (by decide) rfl (Nat.le_of_ble_eq_true rfl) dX4_makePass_22 [5, 6] rfl (by decide) (fun _ => rfl) ⟨rfl, rfl⟩ (fun u2 hw => ?_)
  refine g_mmin K hR (by decide +kernel) (by decide +kernel) (by decide +kernel) (by decide +kernel) (by decide) (Nat.le_of_ble_eq_true rfl) dX4_makePass_25 ?_
  refine g_aload_n K 1 dX4_makePass_28 rfl ?_
  refine g_get K (C := RX4) (T := TX4) (N := 9) 0 2 in_X4_makePass_X4 (by decide +kernel) rfl rfl (by decide) rfl dX4_makePass_29 ?_
  refine g_bipush (v := 9) K dX4_makePass_32 rfl ?_
  refine g_callV (st' := fun u3 => []) (ws' := fun u3 => [((A 0), .inr (5, [.ref (A 1), .ref (A 3), .ref (A 5), .ref (A 7), .ref (A 12), .ref (A 15), .int dMc, .int dZ, .int dPc])), ((A 1), .inr (7, [.int 5, .ref (A 2)])), ((A 2), .inl (cy 0, 5, .inl dS)), ((A 3), .inr (7, [.int 7, .ref (A 4)])), ((A 4), .inl (cy 0, 42, .inl dM)), ((A 5), .inr (7, [.int 5, .ref (A 6)])), ((A 6), .inl (cy 0, 50, .inl u3.1)), ((A 7), .inr (2, [.ref (A 8), .ref (A 10), .int dBc])), ((A 8), .inr (7, [.int 12, .ref (A 9)])), ((A 9), .inl (cy 0, 720, .inl dN)), ((A 10), .inr (7, [.int 60, .ref (A 11)])), ((A 11), .inl (cy 0, 60, .inl dO)), ((A 12), .inr (3, [.ref (A 13), .int dCc])), ((A 13), .inr (7, [.int 5, .ref (A 14)])), ((A 14), .inl (cy 0, 40, .inl dC)), ((A 15), .inr (7, [.int 5, .ref (A 16)])), ((A 16), .inl (cy 0, 5, .inl u3.2))]) K hR [.int 6, .int (xMin u1 u2), .ref (A 5), .int 9] [] 0 rfl rfl (c_X4_takeShare_o5 X.2.1 (gxD X) cy sd A dS dM dP dN dBc dO dC dCc dR dMc dZ dPc 6 (xMin u1 u2) 9 hw) gX4_makePass_X4_takeShare rfl yok_X4_takeShare rfl rfl (by decide) rfl (Nat.le_of_ble_eq_true rfl) dX4_makePass_34 [0, 1, 2, 3, 4, 5, 6, 7, 8, 9, 10, 11, 12, 13, 14, 15, 16] rfl (by decide) (fun _ => rfl) (fun _ => rfl) (fun _ => rfl) ⟨rfl, rfl⟩ (fun u3 hw => ?_)
  refine g_iconst (v := 0) K dX4_makePass_37 rfl ?_
  refine g_istore_n (lv' := [(2, .int 0), (1, .int dBc), (0, .ref (A 0))]) K dX4_makePass_38 rfl (by rw [En]; decide) rfl ?_
  refine g_iconst (v := 0) K dX4_makePass_39 rfl ?_
  refine g_istore_n (lv' := [(3, .int 0), (2, .int 0), (1, .int dBc), (0, .ref (A 0))]) K dX4_makePass_40 rfl (by rw [En]; decide) rfl ?_
  obtain ⟨fl, hw⟩ := hw
  have key : ∀ (k41_63 : Int32 → Int32 → XRow → Prop), (∀ (v4 : Int32) (v5 : Int32) (v6 : XRow), k41_63 v4 v5 v6 → Gx X 0 0 [((A 0), .inr (5, [.ref (A 1), .ref (A 3), .ref (A 5), .ref (A 7), .ref (A 12), .ref (A 15), .int dMc, .int dZ, .int dPc])), ((A 1), .inr (7, [.int 5, .ref (A 2)])), ((A 2), .inl (cy 0, 5, .inl dS)), ((A 3), .inr (7, [.int 7, .ref (A 4)])), ((A 4), .inl (cy 0, 42, .inl dM)), ((A 5), .inr (7, [.int 5, .ref (A 6)])), ((A 6), .inl (cy 0, 50, .inl v6)), ((A 7), .inr (2, [.ref (A 8), .ref (A 10), .int dBc])), ((A 8), .inr (7, [.int 12, .ref (A 9)])), ((A 9), .inl (cy 0, 720, .inl dN)), ((A 10), .inr (7, [.int 60, .ref (A 11)])), ((A 11), .inl (cy 0, 60, .inl dO)), ((A 12), .inr (3, [.ref (A 13), .int dCc])), ((A 13), .inr (7, [.int 5, .ref (A 14)])), ((A 14), .inl (cy 0, 40, .inl dC)), ((A 15), .inr (7, [.int 5, .ref (A 16)])), ((A 16), .inl (cy 0, 5, .inl u3.2))] [(3, .int v4), (2, .int v5), (1, .int dBc), (0, .ref (A 0))] 63 []) → ∀ (n : Nat) (v4 : Int32) (v5 : Int32) (v6 : XRow), wp_X4_makePass_L41 dM dMc k41_63 n v4 v5 v6 → Gx X 0 0 [((A 0), .inr (5, [.ref (A 1), .ref (A 3), .ref (A 5), .ref (A 7), .ref (A 12), .ref (A 15), .int dMc, .int dZ, .int dPc])), ((A 1), .inr (7, [.int 5, .ref (A 2)])), ((A 2), .inl (cy 0, 5, .inl dS)), ((A 3), .inr (7, [.int 7, .ref (A 4)])), ((A 4), .inl (cy 0, 42, .inl dM)), ((A 5), .inr (7, [.int 5, .ref (A 6)])), ((A 6), .inl (cy 0, 50, .inl v6)), ((A 7), .inr (2, [.ref (A 8), .ref (A 10), .int dBc])), ((A 8), .inr (7, [.int 12, .ref (A 9)])), ((A 9), .inl (cy 0, 720, .inl dN)), ((A 10), .inr (7, [.int 60, .ref (A 11)])), ((A 11), .inl (cy 0, 60, .inl dO)), ((A 12), .inr (3, [.ref (A 13), .int dCc])), ((A 13), .inr (7, [.int 5, .ref (A 14)])), ((A 14), .inl (cy 0, 40, .inl dC)), ((A 15), .inr (7, [.int 5, .ref (A 16)])), ((A 16), .inl (cy 0, 5, .inl u3.2))] [(3, .int v4), (2, .int v5), (1, .int dBc), (0, .ref (A 0))] 41 [] := by
    intro k41_63 hx63 n
    induction n with
    | zero => intro v4 v5 v6 hw; exact hw.elim
    | succ n ih =>
      intro v4 v5 v6 hw
      refine g_iload_n K 0 dX4_makePass_41 rfl ?_
      refine g_aload_n K 3 dX4_makePass_42 rfl ?_
      refine g_get K (C := RX4) (T := TX4) (N := 9) 0 6 in_X4_makePass_X4 (by decide +kernel) rfl rfl (by decide) rfl dX4_makePass_43 ?_
      refine g_icmp_ge (tgt := 63) K dX4_makePass_46 (by decide) (fun hc => ?_) (fun hc => ?_)
      · replace hw := hw.1 hc
        exact hx63 _ _ _ hw
      · replace hw := hw.2 hc
        refine g_iload_n K 1 dX4_makePass_49 rfl ?_
        refine g_aload_n K 3 dX4_makePass_50 rfl ?_
        refine g_iload_n K 0 dX4_makePass_51 rfl ?_
        refine g_callV (st' := fun u7 => [.int u7.1, .int v5]) (ws' := fun u7 => [((A 0), .inr (5, [.ref (A 1), .ref (A 3), .ref (A 5), .ref (A 7), .ref (A 12), .ref (A 15), .int dMc, .int dZ, .int dPc])), ((A 1), .inr (7, [.int 5, .ref (A 2)])), ((A 2), .inl (cy 0, 5, .inl dS)), ((A 3), .inr (7, [.int 7, .ref (A 4)])), ((A 4), .inl (cy 0, 42, .inl dM)), ((A 5), .inr (7, [.int 5, .ref (A 6)])), ((A 6), .inl (cy 0, 50, .inl u7.2)), ((A 7), .inr (2, [.ref (A 8), .ref (A 10), .int dBc])), ((A 8), .inr (7, [.int 12, .ref (A 9)])), ((A 9), .inl (cy 0, 720, .inl dN)), ((A 10), .inr (7, [.int 60, .ref (A 11)])), ((A 11), .inl (cy 0, 60, .inl dO)), ((A 12), .inr (3, [.ref (A 13), .int dCc])), ((A 13), .inr (7, [.int 5, .ref (A 14)])), ((A 14), .inl (cy 0, 40, .inl dC)), ((A 15), .inr (7, [.int 5, .ref (A 16)])), ((A 16), .inl (cy 0, 5, .inl u3.2))]) K hR [.int v4] [.int v5] 0 rfl rfl (c_X4_sortOut X.2.1 (gxD X) cy sd A dS dM v6 dN dBc dO dC dCc u3.2 dMc dZ dPc v4 hw) gX4_makePass_X4_sortOut rfl yok_X4_sortOut rfl rfl (by decide) rfl (Nat.le_of_ble_eq_true rfl) dX4_makePass_52 [0, 1, 2, 3, 4, 5, 6, 7, 8, 9, 10, 11, 12, 13, 14, 15, 16] rfl (by decide) (fun _ => rfl) (fun _ => rfl) (fun _ => rfl) ⟨rfl, rfl⟩ (fun u7 hw => ?_)
        refine g_iadd K dX4_makePass_55 ?_
        refine g_topi (fun x8 ex8 => ?_)
        replace hw := hw x8 ex8
        refine g_istore_n (lv' := [(2, .int x8), (3, .int v4), (1, .int dBc), (0, .ref (A 0))]) K dX4_makePass_56 rfl (by rw [En]; decide) rfl ?_
        obtain ⟨x9, ex9⟩ : ∃ z : Int32, z = v4 + 1 := ⟨_, rfl⟩
        replace hw := hw x9 ex9
        refine g_iinc (v := x9) (lv' := [(3, .int x9), (2, .int x8), (1, .int dBc), (0, .ref (A 0))]) K 1 dX4_makePass_57 rfl (by rw [ex9]; rfl) (by rw [En]; decide) rfl ?_
        refine g_goto (tgt := 41) K dX4_makePass_60 (by decide) ?_
        exact ih _ _ _ hw
  refine key _ (fun v10 v11 v12 hw => ?_) fl _ _ _ hw
  refine g_iload_n K 1 dX4_makePass_63 rfl ?_
  refine g_aload_n K 3 dX4_makePass_64 rfl ?_
  refine g_callV (st' := fun u13 => [.int u13.1, .int v11]) (ws' := fun u13 => [((A 0), .inr (5, [.ref (A 1), .ref (A 3), .ref (A 5), .ref (A 7), .ref (A 12), .ref (A 15), .int dMc, .int dZ, .int dPc])), ((A 1), .inr (7, [.int 5, .ref (A 2)])), ((A 2), .inl (cy 0, 5, .inl dS)), ((A 3), .inr (7, [.int 7, .ref (A 4)])), ((A 4), .inl (cy 0, 42, .inl dM)), ((A 5), .inr (7, [.int 5, .ref (A 6)])), ((A 6), .inl (cy 0, 50, .inl u13.2)), ((A 7), .inr (2, [.ref (A 8), .ref (A 10), .int dBc])), ((A 8), .inr (7, [.int 12, .ref (A 9)])), ((A 9), .inl (cy 0, 720, .inl dN)), ((A 10), .inr (7, [.int 60, .ref (A 11)])), ((A 11), .inl (cy 0, 60, .inl dO)), ((A 12), .inr (3, [.ref (A 13), .int dCc])), ((A 13), .inr (7, [.int 5, .ref (A 14)])), ((A 14), .inl (cy 0, 40, .inl dC)), ((A 15), .inr (7, [.int 5, .ref (A 16)])), ((A 16), .inl (cy 0, 5, .inl u3.2))]) K hR [] [.int v11] 0 rfl rfl (c_X4_clearBelt X.2.1 (gxD X) cy sd A dS dM v12 dN dBc dO dC dCc u3.2 dMc dZ dPc hw) gX4_makePass_X4_clearBelt rfl yok_X4_clearBelt rfl rfl (by decide) rfl (Nat.le_of_ble_eq_true rfl) dX4_makePass_65 [0, 1, 2, 3, 4, 5, 6, 7, 8, 9, 10, 11, 12, 13, 14, 15, 16] rfl (by decide) (fun _ => rfl) (fun _ => rfl) (fun _ => rfl) ⟨rfl, rfl⟩ (fun u13 hw => ?_)
  refine g_iadd K dX4_makePass_68 ?_
  refine g_topi (fun x14 ex14 => ?_)
  replace hw := hw x14 ex14
  refine g_istore_n (lv' := [(2, .int x14), (3, .int v10), (1, .int dBc), (0, .ref (A 0))]) K dX4_makePass_69 rfl (by rw [En]; decide) rfl ?_
  refine g_iconst (v := 0) K dX4_makePass_70 rfl ?_
  refine g_istore_n (lv' := [(3, .int 0), (2, .int x14), (1, .int dBc), (0, .ref (A 0))]) K dX4_makePass_71 rfl (by rw [En]; decide) rfl ?_
  obtain ⟨fl, hw⟩ := hw
  have key : ∀ (k72_137 : Int32 → Int32 → XRow → XRow → Int32 → XRow → XRow → Prop), (∀ (v15 : Int32) (v16 : Int32) (v17 : XRow) (v18 : XRow) (v19 : Int32) (v20 : XRow) (v21 : XRow), k72_137 v15 v16 v17 v18 v19 v20 v21 → Gx X 0 0 [((A 0), .inr (5, [.ref (A 1), .ref (A 3), .ref (A 5), .ref (A 7), .ref (A 12), .ref (A 15), .int dMc, .int v16, .int dPc])), ((A 1), .inr (7, [.int 5, .ref (A 2)])), ((A 2), .inl (cy 0, 5, .inl dS)), ((A 3), .inr (7, [.int 7, .ref (A 4)])), ((A 4), .inl (cy 0, 42, .inl v17)), ((A 5), .inr (7, [.int 5, .ref (A 6)])), ((A 6), .inl (cy 0, 50, .inl v18)), ((A 7), .inr (2, [.ref (A 8), .ref (A 10), .int v19])), ((A 8), .inr (7, [.int 12, .ref (A 9)])), ((A 9), .inl (cy 0, 720, .inl v20)), ((A 10), .inr (7, [.int 60, .ref (A 11)])), ((A 11), .inl (cy 0, 60, .inl dO)), ((A 12), .inr (3, [.ref (A 13), .int dCc])), ((A 13), .inr (7, [.int 5, .ref (A 14)])), ((A 14), .inl (cy 0, 40, .inl dC)), ((A 15), .inr (7, [.int 5, .ref (A 16)])), ((A 16), .inl (cy 0, 5, .inl v21))] [(3, .int v15), (2, .int x14), (1, .int dBc), (0, .ref (A 0))] 137 []) → ∀ (n : Nat) (v15 : Int32) (v16 : Int32) (v17 : XRow) (v18 : XRow) (v19 : Int32) (v20 : XRow) (v21 : XRow), wp_X4_makePass_L72 dS dMc k72_137 n v15 v16 v17 v18 v19 v20 v21 → Gx X 0 0 [((A 0), .inr (5, [.ref (A 1), .ref (A 3), .ref (A 5), .ref (A 7), .ref (A 12), .ref (A 15), .int dMc, .int v16, .int dPc])), ((A 1), .inr (7, [.int 5, .ref (A 2)])), ((A 2), .inl (cy 0, 5, .inl dS)), ((A 3), .inr (7, [.int 7, .ref (A 4)])), ((A 4), .inl (cy 0, 42, .inl v17)), ((A 5), .inr (7, [.int 5, .ref (A 6)])), ((A 6), .inl (cy 0, 50, .inl v18)), ((A 7), .inr (2, [.ref (A 8), .ref (A 10), .int v19])), ((A 8), .inr (7, [.int 12, .ref (A 9)])), ((A 9), .inl (cy 0, 720, .inl v20)), ((A 10), .inr (7, [.int 60, .ref (A 11)])), ((A 11), .inl (cy 0, 60, .inl dO)), ((A 12), .inr (3, [.ref (A 13), .int dCc])), ((A 13), .inr (7, [.int 5, .ref (A 14)])), ((A 14), .inl (cy 0, 40, .inl dC)), ((A 15), .inr (7, [.int 5, .ref (A 16)])), ((A 16), .inl (cy 0, 5, .inl v21))] [(3, .int v15), (2, .int x14), (1, .int dBc), (0, .ref (A 0))] 72 [] := by
    intro k72_137 hx137 n
    induction n with
    | zero => intro v15 v16 v17 v18 v19 v20 v21 hw; exact hw.elim
    | succ n ih =>
      intro v15 v16 v17 v18 v19 v20 v21 hw
      refine g_iload_n K 0 dX4_makePass_72 rfl ?_
      refine g_aload_n K 3 dX4_makePass_73 rfl ?_
      refine g_get K (C := RX4) (T := TX4) (N := 9) 0 6 in_X4_makePass_X4 (by decide +kernel) rfl rfl (by decide) rfl dX4_makePass_74 ?_
      refine g_icmp_ge (tgt := 137) K dX4_makePass_77 (by decide) (fun hc => ?_) (fun hc => ?_)
      · replace hw := hw.1 hc
        exact hx137 _ _ _ _ _ _ _ hw
      · replace hw := hw.2 hc
        refine g_aload_n K 3 dX4_makePass_80 rfl ?_
        refine g_iconst (v := 2) K dX4_makePass_81 rfl ?_
        refine g_callVr (st' := fun u22 => [.int u22]) K hR [.int 2] [] 0 rfl rfl (c_X4_setting X.2.1 (gxD X) cy sd A dS v17 v18 v20 v19 dO dC dCc v21 dMc v16 dPc 2 hw) gX4_makePass_X4_setting rfl yok_X4_setting rfl rfl (by decide) rfl (Nat.le_of_ble_eq_true rfl) dX4_makePass_82 [0, 1, 2, 3, 4, 5, 6, 7, 8, 9, 10, 11, 12, 13, 14, 15, 16] rfl (by decide) (fun _ => rfl) ⟨rfl, rfl⟩ (fun u22 hw => ?_)
        refine g_istore (lv' := [(4, .int u22), (3, .int v15), (2, .int x14), (1, .int dBc), (0, .ref (A 0))]) K dX4_makePass_85 (by rw [En]; decide) rfl ?_
        refine g_aload_n K 4 dX4_makePass_87 rfl ?_
        refine g_get K (C := RX4) (T := TX4) (N := 9) 0 3 in_X4_makePass_X4 (by decide +kernel) rfl rfl (by decide) rfl dX4_makePass_88 ?_
        refine g_get K (C := RX0) (T := TX0) (N := 3) 7 2 in_X4_makePass_X0 (by decide +kernel) rfl rfl (by decide) rfl dX4_makePass_91 ?_
        refine g_istore (lv' := [(5, .int v19), (4, .int u22), (3, .int v15), (2, .int x14), (1, .int dBc), (0, .ref (A 0))]) K dX4_makePass_94 (by rw [En]; decide) rfl ?_
        obtain ⟨fl, hw⟩ := hw
        have key : ∀ (k96_131 : Int32 → Int32 → XRow → XRow → Int32 → XRow → XRow → Prop), (∀ (v23 : Int32) (v24 : Int32) (v25 : XRow) (v26 : XRow) (v27 : Int32) (v28 : XRow) (v29 : XRow), k96_131 v23 v24 v25 v26 v27 v28 v29 → Gx X 0 0 [((A 0), .inr (5, [.ref (A 1), .ref (A 3), .ref (A 5), .ref (A 7), .ref (A 12), .ref (A 15), .int dMc, .int v24, .int dPc])), ((A 1), .inr (7, [.int 5, .ref (A 2)])), ((A 2), .inl (cy 0, 5, .inl dS)), ((A 3), .inr (7, [.int 7, .ref (A 4)])), ((A 4), .inl (cy 0, 42, .inl v25)), ((A 5), .inr (7, [.int 5, .ref (A 6)])), ((A 6), .inl (cy 0, 50, .inl v26)), ((A 7), .inr (2, [.ref (A 8), .ref (A 10), .int v27])), ((A 8), .inr (7, [.int 12, .ref (A 9)])), ((A 9), .inl (cy 0, 720, .inl v28)), ((A 10), .inr (7, [.int 60, .ref (A 11)])), ((A 11), .inl (cy 0, 60, .inl dO)), ((A 12), .inr (3, [.ref (A 13), .int dCc])), ((A 13), .inr (7, [.int 5, .ref (A 14)])), ((A 14), .inl (cy 0, 40, .inl dC)), ((A 15), .inr (7, [.int 5, .ref (A 16)])), ((A 16), .inl (cy 0, 5, .inl v29))] [(5, .int v23), (4, .int u22), (3, .int v15), (2, .int x14), (1, .int dBc), (0, .ref (A 0))] 131 []) → ∀ (n : Nat) (v23 : Int32) (v24 : Int32) (v25 : XRow) (v26 : XRow) (v27 : Int32) (v28 : XRow) (v29 : XRow), wp_X4_makePass_L96 dS v15 u22 k96_131 n v23 v24 v25 v26 v27 v28 v29 → Gx X 0 0 [((A 0), .inr (5, [.ref (A 1), .ref (A 3), .ref (A 5), .ref (A 7), .ref (A 12), .ref (A 15), .int dMc, .int v24, .int dPc])), ((A 1), .inr (7, [.int 5, .ref (A 2)])), ((A 2), .inl (cy 0, 5, .inl dS)), ((A 3), .inr (7, [.int 7, .ref (A 4)])), ((A 4), .inl (cy 0, 42, .inl v25)), ((A 5), .inr (7, [.int 5, .ref (A 6)])), ((A 6), .inl (cy 0, 50, .inl v26)), ((A 7), .inr (2, [.ref (A 8), .ref (A 10), .int v27])), ((A 8), .inr (7, [.int 12, .ref (A 9)])), ((A 9), .inl (cy 0, 720, .inl v28)), ((A 10), .inr (7, [.int 60, .ref (A 11)])), ((A 11), .inl (cy 0, 60, .inl dO)), ((A 12), .inr (3, [.ref (A 13), .int dCc])), ((A 13), .inr (7, [.int 5, .ref (A 14)])), ((A 14), .inl (cy 0, 40, .inl dC)), ((A 15), .inr (7, [.int 5, .ref (A 16)])), ((A 16), .inl (cy 0, 5, .inl v29))] [(5, .int v23), (4, .int u22), (3, .int v15), (2, .int x14), (1, .int dBc), (0, .ref (A 0))] 96 [] := by
          intro k96_131 hx131 n
          induction n with
          | zero => intro v23 v24 v25 v26 v27 v28 v29 hw; exact hw.elim
          | succ n ih =>
            intro v23 v24 v25 v26 v27 v28 v29 hw
            refine g_iload K 0 dX4_makePass_96 rfl ?_
            refine g_bipush (v := 60) K dX4_makePass_98 rfl ?_
            refine g_icmp_ge (tgt := 131) K dX4_makePass_100 (by decide) (fun hc => ?_) (fun hc => ?_)
            · replace hw := hw.1 hc
              exact hx131 _ _ _ _ _ _ _ hw
            · replace hw := hw.2 hc
              refine g_aload_n K 5 dX4_makePass_103 rfl ?_
              refine g_get K (C := RX4) (T := TX4) (N := 9) 0 2 in_X4_makePass_X4 (by decide +kernel) rfl rfl (by decide) rfl dX4_makePass_104 ?_
              refine g_iload_n K 2 dX4_makePass_107 rfl ?_
              refine g_callVr (st' := fun u30 => [.int u30]) K hR [.int v15] [] 5 rfl rfl (c_X6_sum X.2.1 (gxD X) cy sd (A 5) (A 6) 5 50 v26 v15 hw) gX4_makePass_X6_sum rfl yok_X6_sum rfl rfl (by decide) rfl (Nat.le_of_ble_eq_true rfl) dX4_makePass_108 [5, 6] rfl (by decide) (fun _ => rfl) ⟨rfl, rfl⟩ (fun u30 hw => ?_)
              refine g_iload K 1 dX4_makePass_111 rfl ?_
              refine g_icmp_lt (tgt := 131) K dX4_makePass_113 (by decide) (fun hc => ?_) (fun hc => ?_)
              · replace hw := hw.1 hc
                exact hx131 _ _ _ _ _ _ _ hw
              · replace hw := hw.2 hc
                refine g_aload_n K 5 dX4_makePass_116 rfl ?_
                refine g_iload K 0 dX4_makePass_117 rfl ?_
                refine g_iload_n K 2 dX4_makePass_119 rfl ?_
                refine g_iload K 1 dX4_makePass_120 rfl ?_
                refine g_callV (st' := fun u31 => []) (ws' := fun u31 => [((A 0), .inr (5, [.ref (A 1), .ref (A 3), .ref (A 5), .ref (A 7), .ref (A 12), .ref (A 15), .int dMc, .int u31.1, .int dPc])), ((A 1), .inr (7, [.int 5, .ref (A 2)])), ((A 2), .inl (cy 0, 5, .inl dS)), ((A 3), .inr (7, [.int 7, .ref (A 4)])), ((A 4), .inl (cy 0, 42, .inl u31.2.1)), ((A 5), .inr (7, [.int 5, .ref (A 6)])), ((A 6), .inl (cy 0, 50, .inl u31.2.2.1)), ((A 7), .inr (2, [.ref (A 8), .ref (A 10), .int u31.2.2.2.1])), ((A 8), .inr (7, [.int 12, .ref (A 9)])), ((A 9), .inl (cy 0, 720, .inl u31.2.2.2.2.1)), ((A 10), .inr (7, [.int 60, .ref (A 11)])), ((A 11), .inl (cy 0, 60, .inl dO)), ((A 12), .inr (3, [.ref (A 13), .int dCc])), ((A 13), .inr (7, [.int 5, .ref (A 14)])), ((A 14), .inl (cy 0, 40, .inl dC)), ((A 15), .inr (7, [.int 5, .ref (A 16)])), ((A 16), .inl (cy 0, 5, .inl u31.2.2.2.2.2))]) K hR [.int v23, .int v15, .int u22] [] 0 rfl rfl (c_X4_makeBale X.2.1 (gxD X) cy sd A dS v25 v26 v28 v27 dO dC dCc v29 dMc v24 dPc v23 v15 u22 hw) gX4_makePass_X4_makeBale rfl yok_X4_makeBale rfl rfl (by decide) rfl (Nat.le_of_ble_eq_true rfl) dX4_makePass_122 [0, 1, 2, 3, 4, 5, 6, 7, 8, 9, 10, 11, 12, 13, 14, 15, 16] rfl (by decide) (fun _ => rfl) (fun _ => rfl) (fun _ => rfl) ⟨rfl, rfl⟩ (fun u31 hw => ?_)
                obtain ⟨x32, ex32⟩ : ∃ z : Int32, z = v23 + 1 := ⟨_, rfl⟩
                replace hw := hw x32 ex32
                refine g_iinc (v := x32) (lv' := [(5, .int x32), (4, .int u22), (3, .int v15), (2, .int x14), (1, .int dBc), (0, .ref (A 0))]) K 0 dX4_makePass_125 rfl (by rw [ex32]; rfl) (by rw [En]; decide) rfl ?_
                refine g_goto (tgt := 96) K dX4_makePass_128 (by decide) ?_
                exact ih _ _ _ _ _ _ _ hw
        refine key _ (fun v33 v34 v35 v36 v37 v38 v39 hw => ?_) fl _ _ _ _ _ _ _ hw
        obtain ⟨x40, ex40⟩ : ∃ z : Int32, z = v15 + 1 := ⟨_, rfl⟩
        replace hw := hw x40 ex40
        refine g_iinc (v := x40) (lv' := [(3, .int x40), (5, .int v33), (4, .int u22), (2, .int x14), (1, .int dBc), (0, .ref (A 0))]) K 2 dX4_makePass_131 rfl (by rw [ex40]; rfl) (by rw [En]; decide) rfl ?_
        refine g_goto (tgt := 72) K dX4_makePass_134 (by decide) ?_
        refine gx_locals [0, 3, 4, 5] rfl ?_
        exact ih _ _ _ _ _ _ _ hw
  refine key _ (fun v41 v42 v43 v44 v45 v46 v47 hw => ?_) fl _ _ _ _ _ _ _ hw
  refine g_iload_n K 1 dX4_makePass_137 rfl ?_
  refine g_if_gt (tgt := 152) K dX4_makePass_138 (by decide) (fun hc => ?_) (fun hc => ?_)
  · replace hw := hw.1 hc
    refine g_iconst (v := 1) K dX4_makePass_152 rfl ?_
    refine g_goto (tgt := 157) K dX4_makePass_153 (by decide) ?_
    exact g_zret K E Er (true, v42, v43, v44, v45, v46, v47) hw rfl rfl rfl (Nat.le_refl _) (Nat.le_refl _) dX4_makePass_157
  · replace hw := hw.2 hc
    refine g_aload_n K 3 dX4_makePass_141 rfl ?_
    refine g_get K (C := RX4) (T := TX4) (N := 9) 0 3 in_X4_makePass_X4 (by decide +kernel) rfl rfl (by decide) rfl dX4_makePass_142 ?_
    refine g_get K (C := RX0) (T := TX0) (N := 3) 7 2 in_X4_makePass_X0 (by decide +kernel) rfl rfl (by decide) rfl dX4_makePass_145 ?_
    refine g_iload_n K 2 dX4_makePass_148 rfl ?_
    refine g_icmp_le (tgt := 156) K dX4_makePass_149 (by decide) (fun hc => ?_) (fun hc => ?_)
    · replace hw := hw.1 hc
      refine g_iconst (v := 0) K dX4_makePass_156 rfl ?_
      exact g_zret K E Er (false, v42, v43, v44, v45, v46, v47) hw rfl rfl rfl (Nat.le_refl _) (Nat.le_refl _) dX4_makePass_157
    · replace hw := hw.2 hc
      refine g_iconst (v := 1) K dX4_makePass_152 rfl ?_
      refine g_goto (tgt := 157) K dX4_makePass_153 (by decide) ?_
      exact g_zret K E Er (true, v42, v43, v44, v45, v46, v47) hw rfl rfl rfl (Nat.le_refl _) (Nat.le_refl _) dX4_makePass_157

def wp_X4_makePasses_L2 (dS : XRow) (dMc : Int32) (p0 : Int32) (k2_32 : Int32 → Int32 → XRow → XRow → Int32 → XRow → XRow → Prop) : Nat → Int32 → Int32 → XRow → XRow → Int32 → XRow → XRow → Prop
  | 0, _, _, _, _, _, _, _ => False
  | fu + 1, v1, v2, v3, v4, v5, v6, v7 => (p0 ≤ v1 → (k2_32 v1 v2 v3 v4 v5 v6 v7)) ∧ (¬ p0 ≤ v1 → (wp_X6_sum 5 50 v4 6 (fun u8 : Int32 => (u8 ≤ 0 → (k2_32 v1 v2 v3 v4 v5 v6 v7)) ∧ (¬ u8 ≤ 0 → (wp_X4_makePass dS v3 v4 v6 v5 v7 dMc v2 (fun u9 : Bool × Int32 × XRow × XRow × Int32 × XRow × XRow => (u9.1 = true → (∀ x10 : Int32, x10 = v1 + 1 → (wp_X4_makePasses_L2 dS dMc p0 k2_32 fu x10 u9.2.1 u9.2.2.1 u9.2.2.2.1 u9.2.2.2.2.1 u9.2.2.2.2.2.1 u9.2.2.2.2.2.2))) ∧ (u9.1 = false → (k2_32 v1 u9.2.1 u9.2.2.1 u9.2.2.2.1 u9.2.2.2.2.1 u9.2.2.2.2.2.1 u9.2.2.2.2.2.2))))))))
def wp_X4_makePasses (dS : XRow) (dM : XRow) (dP : XRow) (dN : XRow) (dBc : Int32) (dR : XRow) (dMc : Int32) (dZ : Int32) (dPc : Int32) (p0 : Int32) (post : (Int32 × Int32 × Int32 × XRow × XRow × Int32 × XRow × XRow) → Prop) : Prop := ∃ fl, wp_X4_makePasses_L2 dS dMc p0 (fun (v11 : Int32) (v12 : Int32) (v13 : XRow) (v14 : XRow) (v15 : Int32) (v16 : XRow) (v17 : XRow) => ∀ x18 : Int32, x18 = dPc + v11 → (post (v11, v12, x18, v13, v14, v15, v16, v17))) fl 0 dZ dM dP dBc dN dR
theorem in_X4_makePasses_X4 : ∀ w ∈ u_ws RX4 TX4 9, w ∈ wsX4_makePasses := by decide +kernel
set_option maxRecDepth 100000 in
set_option maxHeartbeats 4000000 in
theorem c_X4_makePasses (l : Launch) (D : va_G) (cy : Nat → ClassId) (sd : xSd) (A : Nat → Nat) (dS : XRow) (dM : XRow) (dP : XRow) (dN : XRow) (dBc : Int32) (dO : XRow) (dC : XRow) (dCc : Int32) (dR : XRow) (dMc : Int32) (dZ : Int32) (dPc : Int32) (p0 : Int32) {post : (Int32 × Int32 × Int32 × XRow × XRow × Int32 × XRow × XRow) → Prop} (hw : wp_X4_makePasses dS dM dP dN dBc dR dMc dZ dPc p0 post) : Ctr l D (xTys cy) sd yX4_makePasses wsX4_makePasses ({ frames := 5, cells := 0, slots := 0, locals := 131 } : Room) [.ref (A 0), .int p0] (fun u : Int32 × Int32 × Int32 × XRow × XRow × Int32 × XRow × XRow => some (.int u.1)) [((A 0), .inr (5, [.ref (A 1), .ref (A 3), .ref (A 5), .ref (A 7), .ref (A 12), .ref (A 15), .int dMc, .int dZ, .int dPc])), ((A 1), .inr (7, [.int 5, .ref (A 2)])), ((A 2), .inl (cy 0, 5, .inl dS)), ((A 3), .inr (7, [.int 7, .ref (A 4)])), ((A 4), .inl (cy 0, 42, .inl dM)), ((A 5), .inr (7, [.int 5, .ref (A 6)])), ((A 6), .inl (cy 0, 50, .inl dP)), ((A 7), .inr (2, [.ref (A 8), .ref (A 10), .int dBc])), ((A 8), .inr (7, [.int 12, .ref (A 9)])), ((A 9), .inl (cy 0, 720, .inl dN)), ((A 10), .inr (7, [.int 60, .ref (A 11)])), ((A 11), .inl (cy 0, 60, .inl dO)), ((A 12), .inr (3, [.ref (A 13), .int dCc])), ((A 13), .inr (7, [.int 5, .ref (A 14)])), ((A 14), .inl (cy 0, 40, .inl dC)), ((A 15), .inr (7, [.int 5, .ref (A 16)])), ((A 16), .inl (cy 0, 5, .inl dR))] (fun u => [((A 0), .inr (5, [.ref (A 1), .ref (A 3), .ref (A 5), .ref (A 7), .ref (A 12), .ref (A 15), .int dMc, .int u.2.1, .int u.2.2.1])), ((A 1), .inr (7, [.int 5, .ref (A 2)])), ((A 2), .inl (cy 0, 5, .inl dS)), ((A 3), .inr (7, [.int 7, .ref (A 4)])), ((A 4), .inl (cy 0, 42, .inl u.2.2.2.1)), ((A 5), .inr (7, [.int 5, .ref (A 6)])), ((A 6), .inl (cy 0, 50, .inl u.2.2.2.2.1)), ((A 7), .inr (2, [.ref (A 8), .ref (A 10), .int u.2.2.2.2.2.1])), ((A 8), .inr (7, [.int 12, .ref (A 9)])), ((A 9), .inl (cy 0, 720, .inl u.2.2.2.2.2.2.1)), ((A 10), .inr (7, [.int 60, .ref (A 11)])), ((A 11), .inl (cy 0, 60, .inl dO)), ((A 12), .inr (3, [.ref (A 13), .int dCc])), ((A 13), .inr (7, [.int 5, .ref (A 14)])), ((A 14), .inl (cy 0, 40, .inl dC)), ((A 15), .inr (7, [.int 5, .ref (A 16)])), ((A 16), .inl (cy 0, 5, .inl u.2.2.2.2.2.2.2))]) post := by
  refine Ctr.of (cc := cX4_makePasses) (maxL := 3) (ret := (some .int)) (lv0 := [(0, .ref (A 0)), (1, .int p0)]) (by decide) rfl (Nat.le_of_ble_eq_true rfl) rfl ?_
  intro X El hR Er Enm ED E En K
  have K : Cx X cX4_makePasses RX4 wsX4_makePasses (xTys cy) sd := K
  have E : X.2.2.2.2.2.2.2.2.2.2.1 = xMQ X (fun u : Int32 × Int32 × Int32 × XRow × XRow × Int32 × XRow × XRow => some (.int u.1)) post (fun u => [((A 0), .inr (5, [.ref (A 1), .ref (A 3), .ref (A 5), .ref (A 7), .ref (A 12), .ref (A 15), .int dMc, .int u.2.1, .int u.2.2.1])), ((A 1), .inr (7, [.int 5, .ref (A 2)])), ((A 2), .inl (cy 0, 5, .inl dS)), ((A 3), .inr (7, [.int 7, .ref (A 4)])), ((A 4), .inl (cy 0, 42, .inl u.2.2.2.1)), ((A 5), .inr (7, [.int 5, .ref (A 6)])), ((A 6), .inl (cy 0, 50, .inl u.2.2.2.2.1)), ((A 7), .inr (2, [.ref (A 8), .ref (A 10), .int u.2.2.2.2.2.1])), ((A 8), .inr (7, [.int 12, .ref (A 9)])), ((A 9), .inl (cy 0, 720, .inl u.2.2.2.2.2.2.1)), ((A 10), .inr (7, [.int 60, .ref (A 11)])), ((A 11), .inl (cy 0, 60, .inl dO)), ((A 12), .inr (3, [.ref (A 13), .int dCc])), ((A 13), .inr (7, [.int 5, .ref (A 14)])), ((A 14), .inl (cy 0, 40, .inl dC)), ((A 15), .inr (7, [.int 5, .ref (A 16)])), ((A 16), .inl (cy 0, 5, .inl u.2.2.2.2.2.2.2))]) 0 0 := E
  unfold wp_X4_makePasses at hw
  refine g_iconst (v := 0) K dX4_makePasses_0 rfl ?_
  refine g_istore_n (lv' := [(2, .int 0), (0, .ref (A 0)), (1, .int p0)]) K dX4_makePasses_1 rfl (by rw [En]; decide) rfl ?_
  obtain ⟨fl, hw⟩ := hw
  have key : ∀ (k2_32 : Int32 → Int32 → XRow → XRow → Int32 → XRow → XRow → Prop), (∀ (v1 : Int32) (v2 : Int32) (v3 : XRow) (v4 : XRow) (v5 : Int32) (v6 : XRow) (v7 : XRow), k2_32 v1 v2 v3 v4 v5 v6 v7 → Gx X 0 0 [((A 0), .inr (5, [.ref (A 1), .ref (A 3), .ref (A 5), .ref (A 7), .ref (A 12), .ref (A 15), .int dMc, .int v2, .int dPc])), ((A 1), .inr (7, [.int 5, .ref (A 2)])), ((A 2), .inl (cy 0, 5, .inl dS)), ((A 3), .inr (7, [.int 7, .ref (A 4)])), ((A 4), .inl (cy 0, 42, .inl v3)), ((A 5), .inr (7, [.int 5, .ref (A 6)])), ((A 6), .inl (cy 0, 50, .inl v4)), ((A 7), .inr (2, [.ref (A 8), .ref (A 10), .int v5])), ((A 8), .inr (7, [.int 12, .ref (A 9)])), ((A 9), .inl (cy 0, 720, .inl v6)), ((A 10), .inr (7, [.int 60, .ref (A 11)])), ((A 11), .inl (cy 0, 60, .inl dO)), ((A 12), .inr (3, [.ref (A 13), .int dCc])), ((A 13), .inr (7, [.int 5, .ref (A 14)])), ((A 14), .inl (cy 0, 40, .inl dC)), ((A 15), .inr (7, [.int 5, .ref (A 16)])), ((A 16), .inl (cy 0, 5, .inl v7))] [(2, .int v1), (0, .ref (A 0)), (1, .int p0)] 32 []) → ∀ (n : Nat) (v1 : Int32) (v2 : Int32) (v3 : XRow) (v4 : XRow) (v5 : Int32) (v6 : XRow) (v7 : XRow), wp_X4_makePasses_L2 dS dMc p0 k2_32 n v1 v2 v3 v4 v5 v6 v7 → Gx X 0 0 [((A 0), .inr (5, [.ref (A 1), .ref (A 3), .ref (A 5), .ref (A 7), .ref (A 12), .ref (A 15), .int dMc, .int v2, .int dPc])), ((A 1), .inr (7, [.int 5, .ref (A 2)])), ((A 2), .inl (cy 0, 5, .inl dS)), ((A 3), .inr (7, [.int 7, .ref (A 4)])), ((A 4), .inl (cy 0, 42, .inl v3)), ((A 5), .inr (7, [.int 5, .ref (A 6)])), ((A 6), .inl (cy 0, 50, .inl v4)), ((A 7), .inr (2, [.ref (A 8), .ref (A 10), .int v5])), ((A 8), .inr (7, [.int 12, .ref (A 9)])), ((A 9), .inl (cy 0, 720, .inl v6)), ((A 10), .inr (7, [.int 60, .ref (A 11)])), ((A 11), .inl (cy 0, 60, .inl dO)), ((A 12), .inr (3, [.ref (A 13), .int dCc])), ((A 13), .inr (7, [.int 5, .ref (A 14)])), ((A 14), .inl (cy 0, 40, .inl dC)), ((A 15), .inr (7, [.int 5, .ref (A 16)])), ((A 16), .inl (cy 0, 5, .inl v7))] [(2, .int v1), (0, .ref (A 0)), (1, .int p0)] 2 [] := by
    intro k2_32 hx32 n
    induction n with
    | zero => intro v1 v2 v3 v4 v5 v6 v7 hw; exact hw.elim
    | succ n ih =>
      intro v1 v2 v3 v4 v5 v6 v7 hw
      refine g_iload_n K 0 dX4_makePasses_2 rfl ?_
      refine g_iload_n K 2 dX4_makePasses_3 rfl ?_
      refine g_icmp_ge (tgt := 32) K dX4_makePasses_4 (by decide) (fun hc => ?_) (fun hc => ?_)
      · replace hw := hw.1 hc
        exact hx32 _ _ _ _ _ _ _ hw
      · replace hw := hw.2 hc
        refine g_aload_n K 1 dX4_makePasses_7 rfl ?_
        refine g_get K (C := RX4) (T := TX4) (N := 9) 0 2 in_X4_makePasses_X4 (by decide +kernel) rfl rfl (by decide) rfl dX4_makePasses_8 ?_
        refine g_bipush (v := 6) K dX4_makePasses_11 rfl ?_
        refine g_callVr (st' := fun u8 => [.int u8]) K hR [.int 6] [] 5 rfl rfl (c_X6_sum X.2.1 (gxD X) cy sd (A 5) (A 6) 5 50 v4 6 hw) gX4_makePasses_X6_sum rfl yok_X6_sum rfl rfl (by decide) rfl (Nat.le_of_ble_eq_true rfl) dX4_makePasses_13 [5, 6] rfl (by decide) (fun _ => rfl) ⟨rfl, rfl⟩ (fun u8 hw => ?_)
        refine g_if_le (tgt := 32) K dX4_makePasses_16 (by decide) (fun hc => ?_) (fun hc => ?_)
        · replace hw := hw.1 hc
          exact hx32 _ _ _ _ _ _ _ hw
        · replace hw := hw.2 hc
          refine g_aload_n K 1 dX4_makePasses_19 rfl ?_
          refine g_callV (st' := fun u9 => [.int (bI u9.1)]) (ws' := fun u9 => [((A 0), .inr (5, [.ref (A 1), .ref (A 3), .ref (A 5), .ref (A 7), .ref (A 12), .ref (A 15), .int dMc, .int u9.2.1, .int dPc])), ((A 1), .inr (7, [.int 5, .ref (A 2)])), ((A 2), .inl (cy 0, 5, .inl dS)), ((A 3), .inr (7, [.int 7, .ref (A 4)])), ((A 4), .inl (cy 0, 42, .inl u9.2.2.1)), ((A 5), .inr (7, [.int 5, .ref (A 6)])), ((A 6), .inl (cy 0, 50, .inl u9.2.2.2.1)), ((A 7), .inr (2, [.ref (A 8), .ref (A 10), .int u9.2.2.2.2.1])), ((A 8), .inr (7, [.int 12, .ref (A 9)])), ((A 9), .inl (cy 0, 720, .inl u9.2.2.2.2.2.1)), ((A 10), .inr (7, [.int 60, .ref (A 11)])), ((A 11), .inl (cy 0, 60, .inl dO)), ((A 12), .inr (3, [.ref (A 13), .int dCc])), ((A 13), .inr (7, [.int 5, .ref (A 14)])), ((A 14), .inl (cy 0, 40, .inl dC)), ((A 15), .inr (7, [.int 5, .ref (A 16)])), ((A 16), .inl (cy 0, 5, .inl u9.2.2.2.2.2.2))]) K hR [] [] 0 rfl rfl (c_X4_makePass X.2.1 (gxD X) cy sd A dS v3 v4 v6 v5 dO dC dCc v7 dMc v2 dPc hw) gX4_makePasses_X4_makePass rfl yok_X4_makePass rfl rfl (by decide) rfl (Nat.le_of_ble_eq_true rfl) dX4_makePasses_20 [0, 1, 2, 3, 4, 5, 6, 7, 8, 9, 10, 11, 12, 13, 14, 15, 16] rfl (by decide) (fun _ => rfl) (fun _ => rfl) (fun _ => rfl) ⟨rfl, rfl⟩ (fun u9 hw => ?_)
          refine g_ifb_eq (tgt := 32) K dX4_makePasses_23 (by decide) (fun hc => ?_) (fun hc => ?_)
          · replace hw := hw.2 hc
            exact hx32 _ _ _ _ _ _ _ hw
          · replace hw := hw.1 hc
            obtain ⟨x10, ex10⟩ : ∃ z : Int32, z = v1 + 1 := ⟨_, rfl⟩
            replace hw := hw x10 ex10
            refine g_iinc (v := x10) (lv' := [(2, .int x10), (0, .ref (A 0)), (1, .int p0)]) K 0 dX4_makePasses_26 rfl (by rw [ex10]; rfl) (by rw [En]; decide) rfl ?_
            refine g_goto (tgt := 2) K dX4_makePasses_29 (by decide) ?_
            exact ih _ _ _ _ _ _ _ hw
  refine key _ (fun v11 v12 v13 v14 v15 v16 v17 hw => ?_) fl _ _ _ _ _ _ _ hw
  refine g_aload_n K 1 dX4_makePasses_32 rfl ?_
  refine g_dup K dX4_makePasses_33 rfl ?_
  refine g_get K (C := RX4) (T := TX4) (N := 9) 0 8 in_X4_makePasses_X4 (by decide +kernel) rfl rfl (by decide) rfl dX4_makePasses_34 ?_
  refine g_iload_n K 0 dX4_makePasses_37 rfl ?_
  refine g_iadd K dX4_makePasses_38 ?_
  refine g_topi (fun x18 ex18 => ?_)
  replace hw := hw x18 ex18
  refine g_put (ty := .int) (ws' := [((A 0), .inr (5, [.ref (A 1), .ref (A 3), .ref (A 5), .ref (A 7), .ref (A 12), .ref (A 15), .int dMc, .int v12, .int x18])), ((A 1), .inr (7, [.int 5, .ref (A 2)])), ((A 2), .inl (cy 0, 5, .inl dS)), ((A 3), .inr (7, [.int 7, .ref (A 4)])), ((A 4), .inl (cy 0, 42, .inl v13)), ((A 5), .inr (7, [.int 5, .ref (A 6)])), ((A 6), .inl (cy 0, 50, .inl v14)), ((A 7), .inr (2, [.ref (A 8), .ref (A 10), .int v15])), ((A 8), .inr (7, [.int 12, .ref (A 9)])), ((A 9), .inl (cy 0, 720, .inl v16)), ((A 10), .inr (7, [.int 60, .ref (A 11)])), ((A 11), .inl (cy 0, 60, .inl dO)), ((A 12), .inr (3, [.ref (A 13), .int dCc])), ((A 13), .inr (7, [.int 5, .ref (A 14)])), ((A 14), .inl (cy 0, 40, .inl dC)), ((A 15), .inr (7, [.int 5, .ref (A 16)])), ((A 16), .inl (cy 0, 5, .inl v17))]) K (C := RX4) (T := TX4) (N := 9) 0 8 in_X4_makePasses_X4 tyX4 tyX4_ok nmX4 (by decide +kernel) rfl rfl (by decide) rfl (by decide +kernel) rfl rfl (Nat.le_of_ble_eq_true rfl) rfl dX4_makePasses_39 ?_
  refine g_iload_n K 0 dX4_makePasses_42 rfl ?_
  exact g_zret K E Er (v11, v12, x18, v13, v14, v15, v16, v17) hw rfl rfl rfl (Nat.le_refl _) (Nat.le_refl _) dX4_makePasses_43

def wp_X4_takeShare_L16 (dP : XRow) (wb : Int32) (lnb : Nat) (p0 : Int32) (p1 : Int32) (p2 : Int32) (u1 : Int32) (k16_105 : Int32 → Int32 → XRow → XRow → Prop) : Nat → Int32 → Int32 → XRow → XRow → Prop
  | 0, _, _, _, _ => False
  | fu + 1, v2, v3, v4, v5 => (5 ≤ v2 → (k16_105 v2 v3 v4 v5)) ∧ (¬ 5 ≤ v2 → (wp_X6_get 5 50 dP p0 v2 (fun u6 : Int32 => ∀ x7 : Int64, x7 = u6.toInt64 * p1.toInt64 → ((u1 ≤ 0 → ((u1 ≤ 0 → (wp_X6_put 5 5 v4 0 v2 0 (fun u8 : XRow => wp_X6_put wb lnb v5 p2 v2 0 (fun u9 : XRow => ∀ x10 : Int32, x10 = v3 - 0 → (∀ x11 : Int32, x11 = v2 + 1 → (wp_X4_takeShare_L16 dP wb lnb p0 p1 p2 u1 k16_105 fu x11 x10 u8 u9)))))) ∧ (¬ u1 ≤ 0 → ((¬ u1.toInt64 = 0) ∧ (wp_X6_put 5 5 v4 0 v2 ((x7 - x7 / u1.toInt64 * u1.toInt64).toInt32) (fun u12 : XRow => wp_X6_put wb lnb v5 p2 v2 0 (fun u13 : XRow => ∀ x14 : Int32, x14 = v3 - 0 → (∀ x15 : Int32, x15 = v2 + 1 → (wp_X4_takeShare_L16 dP wb lnb p0 p1 p2 u1 k16_105 fu x15 x14 u12 u13))))))))) ∧ (¬ u1 ≤ 0 → ((¬ u1.toInt64 = 0) ∧ (∀ x16 : Int32, x16 = (x7 / u1.toInt64).toInt32 → ((u1 ≤ 0 → (wp_X6_put 5 5 v4 0 v2 0 (fun u17 : XRow => wp_X6_put wb lnb v5 p2 v2 x16 (fun u18 : XRow => ∀ x19 : Int32, x19 = v3 - x16 → (∀ x20 : Int32, x20 = v2 + 1 → (wp_X4_takeShare_L16 dP wb lnb p0 p1 p2 u1 k16_105 fu x20 x19 u17 u18)))))) ∧ (¬ u1 ≤ 0 → ((¬ u1.toInt64 = 0) ∧ (wp_X6_put 5 5 v4 0 v2 ((x7 - x7 / u1.toInt64 * u1.toInt64).toInt32) (fun u21 : XRow => wp_X6_put wb lnb v5 p2 v2 x16 (fun u22 : XRow => ∀ x23 : Int32, x23 = v3 - x16 → (∀ x24 : Int32, x24 = v2 + 1 → (wp_X4_takeShare_L16 dP wb lnb p0 p1 p2 u1 k16_105 fu x24 x23 u21 u22)))))))))))))))
def wp_X4_takeShare_L108 (wb : Int32) (lnb : Nat) (p2 : Int32) (v26 : Int32) (k108_151 : Int32 → XRow → XRow → Prop) : Nat → Int32 → XRow → XRow → Prop
  | 0, _, _, _ => False
  | fu + 1, v29, v30, v31 => (v26 ≤ v29 → (k108_151 v29 v30 v31)) ∧ (¬ v26 ≤ v29 → (wp_X6_columnOfGreatest 5 5 v30 0 (fun u32 : Int32 => wp_X6_add wb lnb v31 p2 u32 1 (fun u33 : XRow => wp_X6_put 5 5 v30 0 u32 (-1) (fun u34 : XRow => ∀ x35 : Int32, x35 = v29 + 1 → (wp_X4_takeShare_L108 wb lnb p2 v26 k108_151 fu x35 u34 u33))))))
def wp_X4_takeShare_L154 (wb : Int32) (lnb : Nat) (p0 : Int32) (p2 : Int32) (v38 : XRow) (k154_185 : Int32 → XRow → Prop) : Nat → Int32 → XRow → Prop
  | 0, _, _ => False
  | fu + 1, v39, v40 => (5 ≤ v39 → (k154_185 v39 v40)) ∧ (¬ 5 ≤ v39 → (wp_X6_get wb lnb v38 p2 v39 (fun u41 : Int32 => wp_X6_add 5 50 v40 p0 v39 (-u41) (fun u42 : XRow => ∀ x43 : Int32, x43 = v39 + 1 → (wp_X4_takeShare_L154 wb lnb p0 p2 v38 k154_185 fu x43 u42)))))
def wp_X4_takeShare (dP : XRow) (dR : XRow) (wb : Int32) (lnb : Nat) (fb : XRow) (p0 : Int32) (p1 : Int32) (p2 : Int32) (post : (XRow × XRow × XRow) → Prop) : Prop := wp_X6_sum 5 50 dP p0 (fun u1 : Int32 => ∃ fl, wp_X4_takeShare_L16 dP wb lnb p0 p1 p2 u1 (fun (v25 : Int32) (v26 : Int32) (v27 : XRow) (v28 : XRow) => ∃ fl, wp_X4_takeShare_L108 wb lnb p2 v26 (fun (v36 : Int32) (v37 : XRow) (v38 : XRow) => ∃ fl, wp_X4_takeShare_L154 wb lnb p0 p2 v38 (fun (v44 : Int32) (v45 : XRow) => post (v45, v37, v38)) fl 0 dP) fl 0 v27 v28) fl 0 p1 dR fb)
theorem in_X4_takeShare_X4 : ∀ w ∈ u_ws RX4 TX4 9, w ∈ wsX4_takeShare := by decide +kernel
set_option maxRecDepth 100000 in
set_option maxHeartbeats 4000000 in
theorem c_X4_takeShare (l : Launch) (D : va_G) (cy : Nat → ClassId) (sd : xSd) (A : Nat → Nat) (b0 b1 : Nat) (dS : XRow) (dM : XRow) (dP : XRow) (dN : XRow) (dBc : Int32) (dO : XRow) (dC : XRow) (dCc : Int32) (dR : XRow) (dMc : Int32) (dZ : Int32) (dPc : Int32) (wb : Int32) (lnb : Nat) (fb : XRow) (p0 : Int32) (p1 : Int32) (p2 : Int32) {post : (XRow × XRow × XRow) → Prop} (hw : wp_X4_takeShare dP dR wb lnb fb p0 p1 p2 post) : Ctr l D (xTys cy) sd yX4_takeShare wsX4_takeShare ({ frames := 2, cells := 0, slots := 0, locals := 47 } : Room) [.ref (A 0), .int p0, .int p1, .ref b0, .int p2] (fun u : XRow × XRow × XRow => none) [((A 0), .inr (5, [.ref (A 1), .ref (A 3), .ref (A 5), .ref (A 7), .ref (A 12), .ref (A 15), .int dMc, .int dZ, .int dPc])), ((A 1), .inr (7, [.int 5, .ref (A 2)])), ((A 2), .inl (cy 0, 5, .inl dS)), ((A 3), .inr (7, [.int 7, .ref (A 4)])), ((A 4), .inl (cy 0, 42, .inl dM)), ((A 5), .inr (7, [.int 5, .ref (A 6)])), ((A 6), .inl (cy 0, 50, .inl dP)), ((A 7), .inr (2, [.ref (A 8), .ref (A 10), .int dBc])), ((A 8), .inr (7, [.int 12, .ref (A 9)])), ((A 9), .inl (cy 0, 720, .inl dN)), ((A 10), .inr (7, [.int 60, .ref (A 11)])), ((A 11), .inl (cy 0, 60, .inl dO)), ((A 12), .inr (3, [.ref (A 13), .int dCc])), ((A 13), .inr (7, [.int 5, .ref (A 14)])), ((A 14), .inl (cy 0, 40, .inl dC)), ((A 15), .inr (7, [.int 5, .ref (A 16)])), ((A 16), .inl (cy 0, 5, .inl dR)), (b0, .inr (7, [.int wb, .ref b1])), (b1, .inl (cy 0, lnb, .inl fb))] (fun u => [((A 0), .inr (5, [.ref (A 1), .ref (A 3), .ref (A 5), .ref (A 7), .ref (A 12), .ref (A 15), .int dMc, .int dZ, .int dPc])), ((A 1), .inr (7, [.int 5, .ref (A 2)])), ((A 2), .inl (cy 0, 5, .inl dS)), ((A 3), .inr (7, [.int 7, .ref (A 4)])), ((A 4), .inl (cy 0, 42, .inl dM)), ((A 5), .inr (7, [.int 5, .ref (A 6)])), ((A 6), .inl (cy 0, 50, .inl u.1)), ((A 7), .inr (2, [.ref (A 8), .ref (A 10), .int dBc])), ((A 8), .inr (7, [.int 12, .ref (A 9)])), ((A 9), .inl (cy 0, 720, .inl dN)), ((A 10), .inr (7, [.int 60, .ref (A 11)])), ((A 11), .inl (cy 0, 60, .inl dO)), ((A 12), .inr (3, [.ref (A 13), .int dCc])), ((A 13), .inr (7, [.int 5, .ref (A 14)])), ((A 14), .inl (cy 0, 40, .inl dC)), ((A 15), .inr (7, [.int 5, .ref (A 16)])), ((A 16), .inl (cy 0, 5, .inl u.2.1)), (b0, .inr (7, [.int wb, .ref b1])), (b1, .inl (cy 0, lnb, .inl u.2.2))]) post := by
  refine Ctr.of (cc := cX4_takeShare) (maxL := 11) (ret := none) (lv0 := [(0, .ref (A 0)), (1, .int p0), (2, .int p1), (3, .ref b0), (4, .int p2)]) (by decide) rfl (Nat.le_of_ble_eq_true rfl) rfl ?_
  intro X El hR Er Enm ED E En K
  have K : Cx X cX4_takeShare RX4 wsX4_takeShare (xTys cy) sd := K
  have E : X.2.2.2.2.2.2.2.2.2.2.1 = xMQ X (fun u : XRow × XRow × XRow => none) post (fun u => [((A 0), .inr (5, [.ref (A 1), .ref (A 3), .ref (A 5), .ref (A 7), .ref (A 12), .ref (A 15), .int dMc, .int dZ, .int dPc])), ((A 1), .inr (7, [.int 5, .ref (A 2)])), ((A 2), .inl (cy 0, 5, .inl dS)), ((A 3), .inr (7, [.int 7, .ref (A 4)])), ((A 4), .inl (cy 0, 42, .inl dM)), ((A 5), .inr (7, [.int 5, .ref (A 6)])), ((A 6), .inl (cy 0, 50, .inl u.1)), ((A 7), .inr (2, [.ref (A 8), .ref (A 10), .int dBc])), ((A 8), .inr (7, [.int 12, .ref (A 9)])), ((A 9), .inl (cy 0, 720, .inl dN)), ((A 10), .inr (7, [.int 60, .ref (A 11)])), ((A 11), .inl (cy 0, 60, .inl dO)), ((A 12), .inr (3, [.ref (A 13), .int dCc])), ((A 13), .inr (7, [.int 5, .ref (A 14)])), ((A 14), .inl (cy 0, 40, .inl dC)), ((A 15), .inr (7, [.int 5, .ref (A 16)])), ((A 16), .inl (cy 0, 5, .inl u.2.1)), (b0, .inr (7, [.int wb, .ref b1])), (b1, .inl (cy 0, lnb, .inl u.2.2))]) 0 0 := E
  unfold wp_X4_takeShare at hw
  refine g_aload_n K 0 dX4_takeShare_0 rfl ?_
  refine g_get K (C := RX4) (T := TX4) (N := 9) 0 2 in_X4_takeShare_X4 (by decide +kernel) rfl rfl (by decide) rfl dX4_takeShare_1 ?_
  refine g_iload_n K 1 dX4_takeShare_4 rfl ?_
  refine g_callVr (st' := fun u1 => [.int u1]) K hR [.int p0] [] 5 rfl rfl (c_X6_sum X.2.1 (gxD X) cy sd (A 5) (A 6) 5 50 dP p0 hw) gX4_takeShare_X6_sum rfl yok_X6_sum rfl rfl (by decide) rfl (Nat.le_of_ble_eq_true rfl) dX4_takeShare_5 [5, 6] rfl (by decide) (fun _ => rfl) ⟨rfl, rfl⟩ (fun u1 hw => ?_)
  refine g_istore (lv' := [(5, .int u1), (0, .ref (A 0)), (1, .int p0), (2, .int p1), (3, .ref b0), (4, .int p2)]) K dX4_takeShare_8 (by rw [En]; decide) rfl ?_
  refine g_iload_n K 3 dX4_takeShare_10 rfl ?_
  refine g_istore (lv' := [(6, .int p1), (5, .int u1), (0, .ref (A 0)), (1, .int p0), (2, .int p1), (3, .ref b0), (4, .int p2)]) K dX4_takeShare_11 (by rw [En]; decide) rfl ?_
  refine g_iconst (v := 0) K dX4_takeShare_13 rfl ?_
  refine g_istore (lv' := [(7, .int 0), (6, .int p1), (5, .int u1), (0, .ref (A 0)), (1, .int p0), (2, .int p1), (3, .ref b0), (4, .int p2)]) K dX4_takeShare_14 (by rw [En]; decide) rfl ?_
  obtain ⟨fl, hw⟩ := hw
  have key : ∀ (k16_105 : Int32 → Int32 → XRow → XRow → Prop), (∀ (v2 : Int32) (v3 : Int32) (v4 : XRow) (v5 : XRow), k16_105 v2 v3 v4 v5 → Gx X 0 0 [((A 0), .inr (5, [.ref (A 1), .ref (A 3), .ref (A 5), .ref (A 7), .ref (A 12), .ref (A 15), .int dMc, .int dZ, .int dPc])), ((A 1), .inr (7, [.int 5, .ref (A 2)])), ((A 2), .inl (cy 0, 5, .inl dS)), ((A 3), .inr (7, [.int 7, .ref (A 4)])), ((A 4), .inl (cy 0, 42, .inl dM)), ((A 5), .inr (7, [.int 5, .ref (A 6)])), ((A 6), .inl (cy 0, 50, .inl dP)), ((A 7), .inr (2, [.ref (A 8), .ref (A 10), .int dBc])), ((A 8), .inr (7, [.int 12, .ref (A 9)])), ((A 9), .inl (cy 0, 720, .inl dN)), ((A 10), .inr (7, [.int 60, .ref (A 11)])), ((A 11), .inl (cy 0, 60, .inl dO)), ((A 12), .inr (3, [.ref (A 13), .int dCc])), ((A 13), .inr (7, [.int 5, .ref (A 14)])), ((A 14), .inl (cy 0, 40, .inl dC)), ((A 15), .inr (7, [.int 5, .ref (A 16)])), ((A 16), .inl (cy 0, 5, .inl v4)), (b0, .inr (7, [.int wb, .ref b1])), (b1, .inl (cy 0, lnb, .inl v5))] [(7, .int v2), (6, .int v3), (5, .int u1), (0, .ref (A 0)), (1, .int p0), (2, .int p1), (3, .ref b0), (4, .int p2)] 105 []) → ∀ (n : Nat) (v2 : Int32) (v3 : Int32) (v4 : XRow) (v5 : XRow), wp_X4_takeShare_L16 dP wb lnb p0 p1 p2 u1 k16_105 n v2 v3 v4 v5 → Gx X 0 0 [((A 0), .inr (5, [.ref (A 1), .ref (A 3), .ref (A 5), .ref (A 7), .ref (A 12), .ref (A 15), .int dMc, .int dZ, .int dPc])), ((A 1), .inr (7, [.int 5, .ref (A 2)])), ((A 2), .inl (cy 0, 5, .inl dS)), ((A 3), .inr (7, [.int 7, .ref (A 4)])), ((A 4), .inl (cy 0, 42, .inl dM)), ((A 5), .inr (7, [.int 5, .ref (A 6)])), ((A 6), .inl (cy 0, 50, .inl dP)), ((A 7), .inr (2, [.ref (A 8), .ref (A 10), .int dBc])), ((A 8), .inr (7, [.int 12, .ref (A 9)])), ((A 9), .inl (cy 0, 720, .inl dN)), ((A 10), .inr (7, [.int 60, .ref (A 11)])), ((A 11), .inl (cy 0, 60, .inl dO)), ((A 12), .inr (3, [.ref (A 13), .int dCc])), ((A 13), .inr (7, [.int 5, .ref (A 14)])), ((A 14), .inl (cy 0, 40, .inl dC)), ((A 15), .inr (7, [.int 5, .ref (A 16)])), ((A 16), .inl (cy 0, 5, .inl v4)), (b0, .inr (7, [.int wb, .ref b1])), (b1, .inl (cy 0, lnb, .inl v5))] [(7, .int v2), (6, .int v3), (5, .int u1), (0, .ref (A 0)), (1, .int p0), (2, .int p1), (3, .ref b0), (4, .int p2)] 16 [] := by
    intro k16_105 hx105 n
    induction n with
    | zero => intro v2 v3 v4 v5 hw; exact hw.elim
    | succ n ih =>
      intro v2 v3 v4 v5 hw
      refine g_iload K 0 dX4_takeShare_16 rfl ?_
      refine g_iconst (v := 5) K dX4_takeShare_18 rfl ?_
      refine g_icmp_ge (tgt := 105) K dX4_takeShare_19 (by decide) (fun hc => ?_) (fun hc => ?_)
      · replace hw := hw.1 hc
        exact hx105 _ _ _ _ hw
      · replace hw := hw.2 hc
        refine g_aload_n K 3 dX4_takeShare_22 rfl ?_
        refine g_get K (C := RX4) (T := TX4) (N := 9) 0 2 in_X4_takeShare_X4 (by decide +kernel) rfl rfl (by decide) rfl dX4_takeShare_23 ?_
        refine g_iload_n K 4 dX4_takeShare_26 rfl ?_
        refine g_iload K 0 dX4_takeShare_27 rfl ?_
        refine g_callVr (st' := fun u6 => [.int u6]) K hR [.int p0, .int v2] [] 5 rfl rfl (c_X6_get X.2.1 (gxD X) cy sd (A 5) (A 6) 5 50 dP p0 v2 hw) gX4_takeShare_X6_get rfl yok_X6_get rfl rfl (by decide) rfl (Nat.le_of_ble_eq_true rfl) dX4_takeShare_29 [5, 6] rfl (by decide) (fun _ => rfl) ⟨rfl, rfl⟩ (fun u6 hw => ?_)
        refine g_i2l (v := u6.toInt64) K dX4_takeShare_32 rfl ?_
        refine g_iload_n K 5 dX4_takeShare_33 rfl ?_
        refine g_i2l (v := p1.toInt64) K dX4_takeShare_34 rfl ?_
        refine g_lmul K dX4_takeShare_35 ?_
        refine g_topl (fun x7 ex7 => ?_)
        replace hw := hw x7 ex7
        refine g_lstore (lv' := [(8, .long x7), (7, .int v2), (6, .int v3), (5, .int u1), (0, .ref (A 0)), (1, .int p0), (2, .int p1), (3, .ref b0), (4, .int p2)]) K dX4_takeShare_36 (by rw [En]; decide) rfl ?_
        refine g_iload K 3 dX4_takeShare_38 rfl ?_
        refine g_if_le (tgt := 53) K dX4_takeShare_40 (by decide) (fun hc => ?_) (fun hc => ?_)
        · replace hw := hw.1 hc
          refine g_iconst (v := 0) K dX4_takeShare_53 rfl ?_
          refine g_istore (lv' := [(10, .int 0), (8, .long x7), (7, .int v2), (6, .int v3), (5, .int u1), (0, .ref (A 0)), (1, .int p0), (2, .int p1), (3, .ref b0), (4, .int p2)]) K dX4_takeShare_54 (by rw [En]; decide) rfl ?_
          refine g_aload_n K 5 dX4_takeShare_56 rfl ?_
          refine g_get K (C := RX4) (T := TX4) (N := 9) 0 5 in_X4_takeShare_X4 (by decide +kernel) rfl rfl (by decide) rfl dX4_takeShare_57 ?_
          refine g_iconst (v := 0) K dX4_takeShare_60 rfl ?_
          refine g_iload K 2 dX4_takeShare_61 rfl ?_
          refine g_iload K 4 dX4_takeShare_63 rfl ?_
          refine g_if_le (tgt := 78) K dX4_takeShare_65 (by decide) (fun hc => ?_) (fun hc => ?_)
          · replace hw := hw.1 hc
            refine g_iconst (v := 0) K dX4_takeShare_78 rfl ?_
            refine g_callV (st' := fun u8 => []) (ws' := fun u8 => [((A 0), .inr (5, [.ref (A 1), .ref (A 3), .ref (A 5), .ref (A 7), .ref (A 12), .ref (A 15), .int dMc, .int dZ, .int dPc])), ((A 1), .inr (7, [.int 5, .ref (A 2)])), ((A 2), .inl (cy 0, 5, .inl dS)), ((A 3), .inr (7, [.int 7, .ref (A 4)])), ((A 4), .inl (cy 0, 42, .inl dM)), ((A 5), .inr (7, [.int 5, .ref (A 6)])), ((A 6), .inl (cy 0, 50, .inl dP)), ((A 7), .inr (2, [.ref (A 8), .ref (A 10), .int dBc])), ((A 8), .inr (7, [.int 12, .ref (A 9)])), ((A 9), .inl (cy 0, 720, .inl dN)), ((A 10), .inr (7, [.int 60, .ref (A 11)])), ((A 11), .inl (cy 0, 60, .inl dO)), ((A 12), .inr (3, [.ref (A 13), .int dCc])), ((A 13), .inr (7, [.int 5, .ref (A 14)])), ((A 14), .inl (cy 0, 40, .inl dC)), ((A 15), .inr (7, [.int 5, .ref (A 16)])), ((A 16), .inl (cy 0, 5, .inl u8)), (b0, .inr (7, [.int wb, .ref b1])), (b1, .inl (cy 0, lnb, .inl v5))]) K hR [.int 0, .int v2, .int 0] [] 15 rfl rfl (c_X6_put X.2.1 (gxD X) cy sd (A 15) (A 16) 5 5 v4 0 v2 0 hw) gX4_takeShare_X6_put rfl yok_X6_put rfl rfl (by decide) rfl (Nat.le_of_ble_eq_true rfl) dX4_takeShare_79 [15, 16] rfl (by decide) (fun _ => rfl) (fun _ => rfl) (fun _ => rfl) ⟨rfl, rfl⟩ (fun u8 hw => ?_)
            refine g_aload_n K 8 dX4_takeShare_82 rfl ?_
            refine g_iload K 9 dX4_takeShare_83 rfl ?_
            refine g_iload K 2 dX4_takeShare_85 rfl ?_
            refine g_iload K 0 dX4_takeShare_87 rfl ?_
            refine g_callV (st' := fun u9 => []) (ws' := fun u9 => [((A 0), .inr (5, [.ref (A 1), .ref (A 3), .ref (A 5), .ref (A 7), .ref (A 12), .ref (A 15), .int dMc, .int dZ, .int dPc])), ((A 1), .inr (7, [.int 5, .ref (A 2)])), ((A 2), .inl (cy 0, 5, .inl dS)), ((A 3), .inr (7, [.int 7, .ref (A 4)])), ((A 4), .inl (cy 0, 42, .inl dM)), ((A 5), .inr (7, [.int 5, .ref (A 6)])), ((A 6), .inl (cy 0, 50, .inl dP)), ((A 7), .inr (2, [.ref (A 8), .ref (A 10), .int dBc])), ((A 8), .inr (7, [.int 12, .ref (A 9)])), ((A 9), .inl (cy 0, 720, .inl dN)), ((A 10), .inr (7, [.int 60, .ref (A 11)])), ((A 11), .inl (cy 0, 60, .inl dO)), ((A 12), .inr (3, [.ref (A 13), .int dCc])), ((A 13), .inr (7, [.int 5, .ref (A 14)])), ((A 14), .inl (cy 0, 40, .inl dC)), ((A 15), .inr (7, [.int 5, .ref (A 16)])), ((A 16), .inl (cy 0, 5, .inl u8)), (b0, .inr (7, [.int wb, .ref b1])), (b1, .inl (cy 0, lnb, .inl u9))]) K hR [.int p2, .int v2, .int 0] [] 17 rfl rfl (c_X6_put X.2.1 (gxD X) cy sd b0 b1 wb lnb v5 p2 v2 0 hw) gX4_takeShare_X6_put rfl yok_X6_put rfl rfl (by decide) rfl (Nat.le_of_ble_eq_true rfl) dX4_takeShare_89 [17, 18] rfl (by decide) (fun _ => rfl) (fun _ => rfl) (fun _ => rfl) ⟨rfl, rfl⟩ (fun u9 hw => ?_)
            refine g_iload K 3 dX4_takeShare_92 rfl ?_
            refine g_iload K 0 dX4_takeShare_94 rfl ?_
            refine g_isub K dX4_takeShare_96 ?_
            refine g_topi (fun x10 ex10 => ?_)
            replace hw := hw x10 ex10
            refine g_istore (lv' := [(6, .int x10), (10, .int 0), (8, .long x7), (7, .int v2), (5, .int u1), (0, .ref (A 0)), (1, .int p0), (2, .int p1), (3, .ref b0), (4, .int p2)]) K dX4_takeShare_97 (by rw [En]; decide) rfl ?_
            obtain ⟨x11, ex11⟩ : ∃ z : Int32, z = v2 + 1 := ⟨_, rfl⟩
            replace hw := hw x11 ex11
            refine g_iinc (v := x11) (lv' := [(7, .int x11), (6, .int x10), (10, .int 0), (8, .long x7), (5, .int u1), (0, .ref (A 0)), (1, .int p0), (2, .int p1), (3, .ref b0), (4, .int p2)]) K 3 dX4_takeShare_99 rfl (by rw [ex11]; rfl) (by rw [En]; decide) rfl ?_
            refine g_goto (tgt := 16) K dX4_takeShare_102 (by decide) ?_
            refine gx_locals [0, 1, 4, 5, 6, 7, 8, 9] rfl ?_
            exact ih _ _ _ _ hw
          · replace hw := hw.2 hc
            refine g_lload K 1 dX4_takeShare_68 rfl ?_
            refine g_iload K 4 dX4_takeShare_70 rfl ?_
            refine g_i2l (v := u1.toInt64) K dX4_takeShare_72 rfl ?_
            refine g_lrem K dX4_takeShare_73 hw.1 ?_
            replace hw := hw.2
            refine g_l2i (v := (x7 - x7 / u1.toInt64 * u1.toInt64).toInt32) K dX4_takeShare_74 rfl ?_
            refine g_goto (tgt := 79) K dX4_takeShare_75 (by decide) ?_
            refine g_callV (st' := fun u12 => []) (ws' := fun u12 => [((A 0), .inr (5, [.ref (A 1), .ref (A 3), .ref (A 5), .ref (A 7), .ref (A 12), .ref (A 15), .int dMc, .int dZ, .int dPc])), ((A 1), .inr (7, [.int 5, .ref (A 2)])), ((A 2), .inl (cy 0, 5, .inl dS)), ((A 3), .inr (7, [.int 7, .ref (A 4)])), ((A 4), .inl (cy 0, 42, .inl dM)), ((A 5), .inr (7, [.int 5, .ref (A 6)])), ((A 6), .inl (cy 0, 50, .inl dP)), ((A 7), .inr (2, [.ref (A 8), .ref (A 10), .int dBc])), ((A 8), .inr (7, [.int 12, .ref (A 9)])), ((A 9), .inl (cy 0, 720, .inl dN)), ((A 10), .inr (7, [.int 60, .ref (A 11)])), ((A 11), .inl (cy 0, 60, .inl dO)), ((A 12), .inr (3, [.ref (A 13), .int dCc])), ((A 13), .inr (7, [.int 5, .ref (A 14)])), ((A 14), .inl (cy 0, 40, .inl dC)), ((A 15), .inr (7, [.int 5, .ref (A 16)])), ((A 16), .inl (cy 0, 5, .inl u12)), (b0, .inr (7, [.int wb, .ref b1])), (b1, .inl (cy 0, lnb, .inl v5))]) K hR [.int 0, .int v2, .int ((x7 - x7 / u1.toInt64 * u1.toInt64).toInt32)] [] 15 rfl rfl (c_X6_put X.2.1 (gxD X) cy sd (A 15) (A 16) 5 5 v4 0 v2 ((x7 - x7 / u1.toInt64 * u1.toInt64).toInt32) hw) gX4_takeShare_X6_put rfl yok_X6_put rfl rfl (by decide) rfl (Nat.le_of_ble_eq_true rfl) dX4_takeShare_79 [15, 16] rfl (by decide) (fun _ => rfl) (fun _ => rfl) (fun _ => rfl) ⟨rfl, rfl⟩ (fun u12 hw => ?_)
            refine g_aload_n K 8 dX4_takeShare_82 rfl ?_
            refine g_iload K 9 dX4_takeShare_83 rfl ?_
            refine g_iload K 2 dX4_takeShare_85 rfl ?_
            refine g_iload K 0 dX4_takeShare_87 rfl ?_
            refine g_callV (st' := fun u13 => []) (ws' := fun u13 => [((A 0), .inr (5, [.ref (A 1), .ref (A 3), .ref (A 5), .ref (A 7), .ref (A 12), .ref (A 15), .int dMc, .int dZ, .int dPc])), ((A 1), .inr (7, [.int 5, .ref (A 2)])), ((A 2), .inl (cy 0, 5, .inl dS)), ((A 3), .inr (7, [.int 7, .ref (A 4)])), ((A 4), .inl (cy 0, 42, .inl dM)), ((A 5), .inr (7, [.int 5, .ref (A 6)])), ((A 6), .inl (cy 0, 50, .inl dP)), ((A 7), .inr (2, [.ref (A 8), .ref (A 10), .int dBc])), ((A 8), .inr (7, [.int 12, .ref (A 9)])), ((A 9), .inl (cy 0, 720, .inl dN)), ((A 10), .inr (7, [.int 60, .ref (A 11)])), ((A 11), .inl (cy 0, 60, .inl dO)), ((A 12), .inr (3, [.ref (A 13), .int dCc])), ((A 13), .inr (7, [.int 5, .ref (A 14)])), ((A 14), .inl (cy 0, 40, .inl dC)), ((A 15), .inr (7, [.int 5, .ref (A 16)])), ((A 16), .inl (cy 0, 5, .inl u12)), (b0, .inr (7, [.int wb, .ref b1])), (b1, .inl (cy 0, lnb, .inl u13))]) K hR [.int p2, .int v2, .int 0] [] 17 rfl rfl (c_X6_put X.2.1 (gxD X) cy sd b0 b1 wb lnb v5 p2 v2 0 hw) gX4_takeShare_X6_put rfl yok_X6_put rfl rfl (by decide) rfl (Nat.le_of_ble_eq_true rfl) dX4_takeShare_89 [17, 18] rfl (by decide) (fun _ => rfl) (fun _ => rfl) (fun _ => rfl) ⟨rfl, rfl⟩ (fun u13 hw => ?_)
            refine g_iload K 3 dX4_takeShare_92 rfl ?_
            refine g_iload K 0 dX4_takeShare_94 rfl ?_
            refine g_isub K dX4_takeShare_96 ?_
            refine g_topi (fun x14 ex14 => ?_)
            replace hw := hw x14 ex14
            refine g_istore (lv' := [(6, .int x14), (10, .int 0), (8, .long x7), (7, .int v2), (5, .int u1), (0, .ref (A 0)), (1, .int p0), (2, .int p1), (3, .ref b0), (4, .int p2)]) K dX4_takeShare_97 (by rw [En]; decide) rfl ?_
            obtain ⟨x15, ex15⟩ : ∃ z : Int32, z = v2 + 1 := ⟨_, rfl⟩
            replace hw := hw x15 ex15
            refine g_iinc (v := x15) (lv' := [(7, .int x15), (6, .int x14), (10, .int 0), (8, .long x7), (5, .int u1), (0, .ref (A 0)), (1, .int p0), (2, .int p1), (3, .ref b0), (4, .int p2)]) K 3 dX4_takeShare_99 rfl (by rw [ex15]; rfl) (by rw [En]; decide) rfl ?_
            refine g_goto (tgt := 16) K dX4_takeShare_102 (by decide) ?_
            refine gx_locals [0, 1, 4, 5, 6, 7, 8, 9] rfl ?_
            exact ih _ _ _ _ hw
        · replace hw := hw.2 hc
          refine g_lload K 0 dX4_takeShare_43 rfl ?_
          refine g_iload K 3 dX4_takeShare_45 rfl ?_
          refine g_i2l (v := u1.toInt64) K dX4_takeShare_47 rfl ?_
          refine g_ldiv K dX4_takeShare_48 hw.1 ?_
          replace hw := hw.2
          refine g_l2i (v := (x7 / u1.toInt64).toInt32) K dX4_takeShare_49 rfl ?_
          refine g_goto (tgt := 54) K dX4_takeShare_50 (by decide) ?_
          refine g_topi (fun x16 ex16 => ?_)
          replace hw := hw x16 ex16
          refine g_istore (lv' := [(10, .int x16), (8, .long x7), (7, .int v2), (6, .int v3), (5, .int u1), (0, .ref (A 0)), (1, .int p0), (2, .int p1), (3, .ref b0), (4, .int p2)]) K dX4_takeShare_54 (by rw [En]; decide) rfl ?_
          refine g_aload_n K 5 dX4_takeShare_56 rfl ?_
          refine g_get K (C := RX4) (T := TX4) (N := 9) 0 5 in_X4_takeShare_X4 (by decide +kernel) rfl rfl (by decide) rfl dX4_takeShare_57 ?_
          refine g_iconst (v := 0) K dX4_takeShare_60 rfl ?_
          refine g_iload K 2 dX4_takeShare_61 rfl ?_
          refine g_iload K 4 dX4_takeShare_63 rfl ?_
          refine g_if_le (tgt := 78) K dX4_takeShare_65 (by decide) (fun hc => ?_) (fun hc => ?_)
          · replace hw := hw.1 hc
            refine g_iconst (v := 0) K dX4_takeShare_78 rfl ?_
            refine g_callV (st' := fun u17 => []) (ws' := fun u17 => [((A 0), .inr (5, [.ref (A 1), .ref (A 3), .ref (A 5), .ref (A 7), .ref (A 12), .ref (A 15), .int dMc, .int dZ, .int dPc])), ((A 1), .inr (7, [.int 5, .ref (A 2)])), ((A 2), .inl (cy 0, 5, .inl dS)), ((A 3), .inr (7, [.int 7, .ref (A 4)])), ((A 4), .inl (cy 0, 42, .inl dM)), ((A 5), .inr (7, [.int 5, .ref (A 6)])), ((A 6), .inl (cy 0, 50, .inl dP)), ((A 7), .inr (2, [.ref (A 8), .ref (A 10), .int dBc])), ((A 8), .inr (7, [.int 12, .ref (A 9)])), ((A 9), .inl (cy 0, 720, .inl dN)), ((A 10), .inr (7, [.int 60, .ref (A 11)])), ((A 11), .inl (cy 0, 60, .inl dO)), ((A 12), .inr (3, [.ref (A 13), .int dCc])), ((A 13), .inr (7, [.int 5, .ref (A 14)])), ((A 14), .inl (cy 0, 40, .inl dC)), ((A 15), .inr (7, [.int 5, .ref (A 16)])), ((A 16), .inl (cy 0, 5, .inl u17)), (b0, .inr (7, [.int wb, .ref b1])), (b1, .inl (cy 0, lnb, .inl v5))]) K hR [.int 0, .int v2, .int 0] [] 15 rfl rfl (c_X6_put X.2.1 (gxD X) cy sd (A 15) (A 16) 5 5 v4 0 v2 0 hw) gX4_takeShare_X6_put rfl yok_X6_put rfl rfl (by decide) rfl (Nat.le_of_ble_eq_true rfl) dX4_takeShare_79 [15, 16] rfl (by decide) (fun _ => rfl) (fun _ => rfl) (fun _ => rfl) ⟨rfl, rfl⟩ (fun u17 hw => ?_)
            refine g_aload_n K 8 dX4_takeShare_82 rfl ?_
            refine g_iload K 9 dX4_takeShare_83 rfl ?_
            refine g_iload K 2 dX4_takeShare_85 rfl ?_
            refine g_iload K 0 dX4_takeShare_87 rfl ?_
            refine g_callV (st' := fun u18 => []) (ws' := fun u18 => [((A 0), .inr (5, [.ref (A 1), .ref (A 3), .ref (A 5), .ref (A 7), .ref (A 12), .ref (A 15), .int dMc, .int dZ, .int dPc])), ((A 1), .inr (7, [.int 5, .ref (A 2)])), ((A 2), .inl (cy 0, 5, .inl dS)), ((A 3), .inr (7, [.int 7, .ref (A 4)])), ((A 4), .inl (cy 0, 42, .inl dM)), ((A 5), .inr (7, [.int 5, .ref (A 6)])), ((A 6), .inl (cy 0, 50, .inl dP)), ((A 7), .inr (2, [.ref (A 8), .ref (A 10), .int dBc])), ((A 8), .inr (7, [.int 12, .ref (A 9)])), ((A 9), .inl (cy 0, 720, .inl dN)), ((A 10), .inr (7, [.int 60, .ref (A 11)])), ((A 11), .inl (cy 0, 60, .inl dO)), ((A 12), .inr (3, [.ref (A 13), .int dCc])), ((A 13), .inr (7, [.int 5, .ref (A 14)])), ((A 14), .inl (cy 0, 40, .inl dC)), ((A 15), .inr (7, [.int 5, .ref (A 16)])), ((A 16), .inl (cy 0, 5, .inl u17)), (b0, .inr (7, [.int wb, .ref b1])), (b1, .inl (cy 0, lnb, .inl u18))]) K hR [.int p2, .int v2, .int x16] [] 17 rfl rfl (c_X6_put X.2.1 (gxD X) cy sd b0 b1 wb lnb v5 p2 v2 x16 hw) gX4_takeShare_X6_put rfl yok_X6_put rfl rfl (by decide) rfl (Nat.le_of_ble_eq_true rfl) dX4_takeShare_89 [17, 18] rfl (by decide) (fun _ => rfl) (fun _ => rfl) (fun _ => rfl) ⟨rfl, rfl⟩ (fun u18 hw => ?_)
            refine g_iload K 3 dX4_takeShare_92 rfl ?_
            refine g_iload K 0 dX4_takeShare_94 rfl ?_
            refine g_isub K dX4_takeShare_96 ?_
            refine g_topi (fun x19 ex19 => ?_)
            replace hw := hw x19 ex19
            refine g_istore (lv' := [(6, .int x19), (10, .int x16), (8, .long x7), (7, .int v2), (5, .int u1), (0, .ref (A 0)), (1, .int p0), (2, .int p1), (3, .ref b0), (4, .int p2)]) K dX4_takeShare_97 (by rw [En]; decide) rfl ?_
            obtain ⟨x20, ex20⟩ : ∃ z : Int32, z = v2 + 1 := ⟨_, rfl⟩
            replace hw := hw x20 ex20
            refine g_iinc (v := x20) (lv' := [(7, .int x20), (6, .int x19), (10, .int x16), (8, .long x7), (5, .int u1), (0, .ref (A 0)), (1, .int p0), (2, .int p1), (3, .ref b0), (4, .int p2)]) K 3 dX4_takeShare_99 rfl (by rw [ex20]; rfl) (by rw [En]; decide) rfl ?_
            refine g_goto (tgt := 16) K dX4_takeShare_102 (by decide) ?_
            refine gx_locals [0, 1, 4, 5, 6, 7, 8, 9] rfl ?_
            exact ih _ _ _ _ hw
          · replace hw := hw.2 hc
            refine g_lload K 1 dX4_takeShare_68 rfl ?_
            refine g_iload K 4 dX4_takeShare_70 rfl ?_
            refine g_i2l (v := u1.toInt64) K dX4_takeShare_72 rfl ?_
            refine g_lrem K dX4_takeShare_73 hw.1 ?_
            replace hw := hw.2
            refine g_l2i (v := (x7 - x7 / u1.toInt64 * u1.toInt64).toInt32) K dX4_takeShare_74 rfl ?_
            refine g_goto (tgt := 79) K dX4_takeShare_75 (by decide) ?_
            refine g_callV (st' := fun u21 => []) (ws' := fun u21 => [((A 0), .inr (5, [.ref (A 1), .ref (A 3), .ref (A 5), .ref (A 7), .ref (A 12), .ref (A 15), .int dMc, .int dZ, .int dPc])), ((A 1), .inr (7, [.int 5, .ref (A 2)])), ((A 2), .inl (cy 0, 5, .inl dS)), ((A 3), .inr (7, [.int 7, .ref (A 4)])), ((A 4), .inl (cy 0, 42, .inl dM)), ((A 5), .inr (7, [.int 5, .ref (A 6)])), ((A 6), .inl (cy 0, 50, .inl dP)), ((A 7), .inr (2, [.ref (A 8), .ref (A 10), .int dBc])), ((A 8), .inr (7, [.int 12, .ref (A 9)])), ((A 9), .inl (cy 0, 720, .inl dN)), ((A 10), .inr (7, [.int 60, .ref (A 11)])), ((A 11), .inl (cy 0, 60, .inl dO)), ((A 12), .inr (3, [.ref (A 13), .int dCc])), ((A 13), .inr (7, [.int 5, .ref (A 14)])), ((A 14), .inl (cy 0, 40, .inl dC)), ((A 15), .inr (7, [.int 5, .ref (A 16)])), ((A 16), .inl (cy 0, 5, .inl u21)), (b0, .inr (7, [.int wb, .ref b1])), (b1, .inl (cy 0, lnb, .inl v5))]) K hR [.int 0, .int v2, .int ((x7 - x7 / u1.toInt64 * u1.toInt64).toInt32)] [] 15 rfl rfl (c_X6_put X.2.1 (gxD X) cy sd (A 15) (A 16) 5 5 v4 0 v2 ((x7 - x7 / u1.toInt64 * u1.toInt64).toInt32) hw) gX4_takeShare_X6_put rfl yok_X6_put rfl rfl (by decide) rfl (Nat.le_of_ble_eq_true rfl) dX4_takeShare_79 [15, 16] rfl (by decide) (fun _ => rfl) (fun _ => rfl) (fun _ => rfl) ⟨rfl, rfl⟩ (fun u21 hw => ?_)
            refine g_aload_n K 8 dX4_takeShare_82 rfl ?_
            refine g_iload K 9 dX4_takeShare_83 rfl ?_
            refine g_iload K 2 dX4_takeShare_85 rfl ?_
            refine g_iload K 0 dX4_takeShare_87 rfl ?_
            refine g_callV (st' := fun u22 => []) (ws' := fun u22 => [((A 0), .inr (5, [.ref (A 1), .ref (A 3), .ref (A 5), .ref (A 7), .ref (A 12), .ref (A 15), .int dMc, .int dZ, .int dPc])), ((A 1), .inr (7, [.int 5, .ref (A 2)])), ((A 2), .inl (cy 0, 5, .inl dS)), ((A 3), .inr (7, [.int 7, .ref (A 4)])), ((A 4), .inl (cy 0, 42, .inl dM)), ((A 5), .inr (7, [.int 5, .ref (A 6)])), ((A 6), .inl (cy 0, 50, .inl dP)), ((A 7), .inr (2, [.ref (A 8), .ref (A 10), .int dBc])), ((A 8), .inr (7, [.int 12, .ref (A 9)])), ((A 9), .inl (cy 0, 720, .inl dN)), ((A 10), .inr (7, [.int 60, .ref (A 11)])), ((A 11), .inl (cy 0, 60, .inl dO)), ((A 12), .inr (3, [.ref (A 13), .int dCc])), ((A 13), .inr (7, [.int 5, .ref (A 14)])), ((A 14), .inl (cy 0, 40, .inl dC)), ((A 15), .inr (7, [.int 5, .ref (A 16)])), ((A 16), .inl (cy 0, 5, .inl u21)), (b0, .inr (7, [.int wb, .ref b1])), (b1, .inl (cy 0, lnb, .inl u22))]) K hR [.int p2, .int v2, .int x16] [] 17 rfl rfl (c_X6_put X.2.1 (gxD X) cy sd b0 b1 wb lnb v5 p2 v2 x16 hw) gX4_takeShare_X6_put rfl yok_X6_put rfl rfl (by decide) rfl (Nat.le_of_ble_eq_true rfl) dX4_takeShare_89 [17, 18] rfl (by decide) (fun _ => rfl) (fun _ => rfl) (fun _ => rfl) ⟨rfl, rfl⟩ (fun u22 hw => ?_)
            refine g_iload K 3 dX4_takeShare_92 rfl ?_
            refine g_iload K 0 dX4_takeShare_94 rfl ?_
            refine g_isub K dX4_takeShare_96 ?_
            refine g_topi (fun x23 ex23 => ?_)
            replace hw := hw x23 ex23
            refine g_istore (lv' := [(6, .int x23), (10, .int x16), (8, .long x7), (7, .int v2), (5, .int u1), (0, .ref (A 0)), (1, .int p0), (2, .int p1), (3, .ref b0), (4, .int p2)]) K dX4_takeShare_97 (by rw [En]; decide) rfl ?_
            obtain ⟨x24, ex24⟩ : ∃ z : Int32, z = v2 + 1 := ⟨_, rfl⟩
            replace hw := hw x24 ex24
            refine g_iinc (v := x24) (lv' := [(7, .int x24), (6, .int x23), (10, .int x16), (8, .long x7), (5, .int u1), (0, .ref (A 0)), (1, .int p0), (2, .int p1), (3, .ref b0), (4, .int p2)]) K 3 dX4_takeShare_99 rfl (by rw [ex24]; rfl) (by rw [En]; decide) rfl ?_
            refine g_goto (tgt := 16) K dX4_takeShare_102 (by decide) ?_
            refine gx_locals [0, 1, 4, 5, 6, 7, 8, 9] rfl ?_
            exact ih _ _ _ _ hw
  refine key _ (fun v25 v26 v27 v28 hw => ?_) fl _ _ _ _ hw
  refine g_iconst (v := 0) K dX4_takeShare_105 rfl ?_
  refine g_istore (lv' := [(7, .int 0), (6, .int v26), (5, .int u1), (0, .ref (A 0)), (1, .int p0), (2, .int p1), (3, .ref b0), (4, .int p2)]) K dX4_takeShare_106 (by rw [En]; decide) rfl ?_
  obtain ⟨fl, hw⟩ := hw
  have key : ∀ (k108_151 : Int32 → XRow → XRow → Prop), (∀ (v29 : Int32) (v30 : XRow) (v31 : XRow), k108_151 v29 v30 v31 → Gx X 0 0 [((A 0), .inr (5, [.ref (A 1), .ref (A 3), .ref (A 5), .ref (A 7), .ref (A 12), .ref (A 15), .int dMc, .int dZ, .int dPc])), ((A 1), .inr (7, [.int 5, .ref (A 2)])), ((A 2), .inl (cy 0, 5, .inl dS)), ((A 3), .inr (7, [.int 7, .ref (A 4)])), ((A 4), .inl (cy 0, 42, .inl dM)), ((A 5), .inr (7, [.int 5, .ref (A 6)])), ((A 6), .inl (cy 0, 50, .inl dP)), ((A 7), .inr (2, [.ref (A 8), .ref (A 10), .int dBc])), ((A 8), .inr (7, [.int 12, .ref (A 9)])), ((A 9), .inl (cy 0, 720, .inl dN)), ((A 10), .inr (7, [.int 60, .ref (A 11)])), ((A 11), .inl (cy 0, 60, .inl dO)), ((A 12), .inr (3, [.ref (A 13), .int dCc])), ((A 13), .inr (7, [.int 5, .ref (A 14)])), ((A 14), .inl (cy 0, 40, .inl dC)), ((A 15), .inr (7, [.int 5, .ref (A 16)])), ((A 16), .inl (cy 0, 5, .inl v30)), (b0, .inr (7, [.int wb, .ref b1])), (b1, .inl (cy 0, lnb, .inl v31))] [(7, .int v29), (6, .int v26), (5, .int u1), (0, .ref (A 0)), (1, .int p0), (2, .int p1), (3, .ref b0), (4, .int p2)] 151 []) → ∀ (n : Nat) (v29 : Int32) (v30 : XRow) (v31 : XRow), wp_X4_takeShare_L108 wb lnb p2 v26 k108_151 n v29 v30 v31 → Gx X 0 0 [((A 0), .inr (5, [.ref (A 1), .ref (A 3), .ref (A 5), .ref (A 7), .ref (A 12), .ref (A 15), .int dMc, .int dZ, .int dPc])), ((A 1), .inr (7, [.int 5, .ref (A 2)])), ((A 2), .inl (cy 0, 5, .inl dS)), ((A 3), .inr (7, [.int 7, .ref (A 4)])), ((A 4), .inl (cy 0, 42, .inl dM)), ((A 5), .inr (7, [.int 5, .ref (A 6)])), ((A 6), .inl (cy 0, 50, .inl dP)), ((A 7), .inr (2, [.ref (A 8), .ref (A 10), .int dBc])), ((A 8), .inr (7, [.int 12, .ref (A 9)])), ((A 9), .inl (cy 0, 720, .inl dN)), ((A 10), .inr (7, [.int 60, .ref (A 11)])), ((A 11), .inl (cy 0, 60, .inl dO)), ((A 12), .inr (3, [.ref (A 13), .int dCc])), ((A 13), .inr (7, [.int 5, .ref (A 14)])), ((A 14), .inl (cy 0, 40, .inl dC)), ((A 15), .inr (7, [.int 5, .ref (A 16)])), ((A 16), .inl (cy 0, 5, .inl v30)), (b0, .inr (7, [.int wb, .ref b1])), (b1, .inl (cy 0, lnb, .inl v31))] [(7, .int v29), (6, .int v26), (5, .int u1), (0, .ref (A 0)), (1, .int p0), (2, .int p1), (3, .ref b0), (4, .int p2)] 108 [] := by
    intro k108_151 hx151 n
    induction n with
    | zero => intro v29 v30 v31 hw; exact hw.elim
    | succ n ih =>
      intro v29 v30 v31 hw
      refine g_iload K 0 dX4_takeShare_108 rfl ?_
      refine g_iload K 1 dX4_takeShare_110 rfl ?_
      refine g_icmp_ge (tgt := 151) K dX4_takeShare_112 (by decide) (fun hc => ?_) (fun hc => ?_)
      · replace hw := hw.1 hc
        exact hx151 _ _ _ hw
      · replace hw := hw.2 hc
        refine g_aload_n K 3 dX4_takeShare_115 rfl ?_
        refine g_get K (C := RX4) (T := TX4) (N := 9) 0 5 in_X4_takeShare_X4 (by decide +kernel) rfl rfl (by decide) rfl dX4_takeShare_116 ?_
        refine g_iconst (v := 0) K dX4_takeShare_119 rfl ?_
        refine g_callVr (st' := fun u32 => [.int u32]) K hR [.int 0] [] 15 rfl rfl (c_X6_columnOfGreatest X.2.1 (gxD X) cy sd (A 15) (A 16) 5 5 v30 0 hw) gX4_takeShare_X6_columnOfGreatest rfl yok_X6_columnOfGreatest rfl rfl (by decide) rfl (Nat.le_of_ble_eq_true rfl) dX4_takeShare_120 [15, 16] rfl (by decide) (fun _ => rfl) ⟨rfl, rfl⟩ (fun u32 hw => ?_)
        refine g_istore (lv' := [(8, .int u32), (7, .int v29), (6, .int v26), (5, .int u1), (0, .ref (A 0)), (1, .int p0), (2, .int p1), (3, .ref b0), (4, .int p2)]) K dX4_takeShare_123 (by rw [En]; decide) rfl ?_
        refine g_aload_n K 7 dX4_takeShare_125 rfl ?_
        refine g_iload K 8 dX4_takeShare_126 rfl ?_
        refine g_iload K 0 dX4_takeShare_128 rfl ?_
        refine g_iconst (v := 1) K dX4_takeShare_130 rfl ?_
        refine g_callV (st' := fun u33 => []) (ws' := fun u33 => [((A 0), .inr (5, [.ref (A 1), .ref (A 3), .ref (A 5), .ref (A 7), .ref (A 12), .ref (A 15), .int dMc, .int dZ, .int dPc])), ((A 1), .inr (7, [.int 5, .ref (A 2)])), ((A 2), .inl (cy 0, 5, .inl dS)), ((A 3), .inr (7, [.int 7, .ref (A 4)])), ((A 4), .inl (cy 0, 42, .inl dM)), ((A 5), .inr (7, [.int 5, .ref (A 6)])), ((A 6), .inl (cy 0, 50, .inl dP)), ((A 7), .inr (2, [.ref (A 8), .ref (A 10), .int dBc])), ((A 8), .inr (7, [.int 12, .ref (A 9)])), ((A 9), .inl (cy 0, 720, .inl dN)), ((A 10), .inr (7, [.int 60, .ref (A 11)])), ((A 11), .inl (cy 0, 60, .inl dO)), ((A 12), .inr (3, [.ref (A 13), .int dCc])), ((A 13), .inr (7, [.int 5, .ref (A 14)])), ((A 14), .inl (cy 0, 40, .inl dC)), ((A 15), .inr (7, [.int 5, .ref (A 16)])), ((A 16), .inl (cy 0, 5, .inl v30)), (b0, .inr (7, [.int wb, .ref b1])), (b1, .inl (cy 0, lnb, .inl u33))]) K hR [.int p2, .int u32, .int 1] [] 17 rfl rfl (c_X6_add X.2.1 (gxD X) cy sd b0 b1 wb lnb v31 p2 u32 1 hw) gX4_takeShare_X6_add rfl yok_X6_add rfl rfl (by decide) rfl (Nat.le_of_ble_eq_true rfl) dX4_takeShare_131 [17, 18] rfl (by decide) (fun _ => rfl) (fun _ => rfl) (fun _ => rfl) ⟨rfl, rfl⟩ (fun u33 hw => ?_)
        refine g_aload_n K 4 dX4_takeShare_134 rfl ?_
        refine g_get K (C := RX4) (T := TX4) (N := 9) 0 5 in_X4_takeShare_X4 (by decide +kernel) rfl rfl (by decide) rfl dX4_takeShare_135 ?_
        refine g_iconst (v := 0) K dX4_takeShare_138 rfl ?_
        refine g_iload K 0 dX4_takeShare_139 rfl ?_
        refine g_iconst (v := (-1)) K dX4_takeShare_141 rfl ?_
        refine g_callV (st' := fun u34 => []) (ws' := fun u34 => [((A 0), .inr (5, [.ref (A 1), .ref (A 3), .ref (A 5), .ref (A 7), .ref (A 12), .ref (A 15), .int dMc, .int dZ, .int dPc])), ((A 1), .inr (7, [.int 5, .ref (A 2)])), ((A 2), .inl (cy 0, 5, .inl dS)), ((A 3), .inr (7, [.int 7, .ref (A 4)])), ((A 4), .inl (cy 0, 42, .inl dM)), ((A 5), .inr (7, [.int 5, .ref (A 6)])), ((A 6), .inl (cy 0, 50, .inl dP)), ((A 7), .inr (2, [.ref (A 8), .ref (A 10), .int dBc])), ((A 8), .inr (7, [.int 12, .ref (A 9)])), ((A 9), .inl (cy 0, 720, .inl dN)), ((A 10), .inr (7, [.int 60, .ref (A 11)])), ((A 11), .inl (cy 0, 60, .inl dO)), ((A 12), .inr (3, [.ref (A 13), .int dCc])), ((A 13), .inr (7, [.int 5, .ref (A 14)])), ((A 14), .inl (cy 0, 40, .inl dC)), ((A 15), .inr (7, [.int 5, .ref (A 16)])), ((A 16), .inl (cy 0, 5, .inl u34)), (b0, .inr (7, [.int wb, .ref b1])), (b1, .inl (cy 0, lnb, .inl u33))]) K hR [.int 0, .int u32, .int (-1)] [] 15 rfl rfl (c_X6_put X.2.1 (gxD X) cy sd (A 15) (A 16) 5 5 v30 0 u32 (-1) hw) gX4_takeShare_X6_put rfl yok_X6_put rfl rfl (by decide) rfl (Nat.le_of_ble_eq_true rfl) dX4_takeShare_142 [15, 16] rfl (by decide) (fun _ => rfl) (fun _ => rfl) (fun _ => rfl) ⟨rfl, rfl⟩ (fun u34 hw => ?_)
        obtain ⟨x35, ex35⟩ : ∃ z : Int32, z = v29 + 1 := ⟨_, rfl⟩
        replace hw := hw x35 ex35
        refine g_iinc (v := x35) (lv' := [(7, .int x35), (8, .int u32), (6, .int v26), (5, .int u1), (0, .ref (A 0)), (1, .int p0), (2, .int p1), (3, .ref b0), (4, .int p2)]) K 1 dX4_takeShare_145 rfl (by rw [ex35]; rfl) (by rw [En]; decide) rfl ?_
        refine g_goto (tgt := 108) K dX4_takeShare_148 (by decide) ?_
        refine gx_locals [0, 2, 3, 4, 5, 6, 7, 8] rfl ?_
        exact ih _ _ _ hw
  refine key _ (fun v36 v37 v38 hw => ?_) fl _ _ _ hw
  refine g_iconst (v := 0) K dX4_takeShare_151 rfl ?_
  refine g_istore (lv' := [(7, .int 0), (6, .int v26), (5, .int u1), (0, .ref (A 0)), (1, .int p0), (2, .int p1), (3, .ref b0), (4, .int p2)]) K dX4_takeShare_152 (by rw [En]; decide) rfl ?_
  obtain ⟨fl, hw⟩ := hw
  have key : ∀ (k154_185 : Int32 → XRow → Prop), (∀ (v39 : Int32) (v40 : XRow), k154_185 v39 v40 → Gx X 0 0 [((A 0), .inr (5, [.ref (A 1), .ref (A 3), .ref (A 5), .ref (A 7), .ref (A 12), .ref (A 15), .int dMc, .int dZ, .int dPc])), ((A 1), .inr (7, [.int 5, .ref (A 2)])), ((A 2), .inl (cy 0, 5, .inl dS)), ((A 3), .inr (7, [.int 7, .ref (A 4)])), ((A 4), .inl (cy 0, 42, .inl dM)), ((A 5), .inr (7, [.int 5, .ref (A 6)])), ((A 6), .inl (cy 0, 50, .inl v40)), ((A 7), .inr (2, [.ref (A 8), .ref (A 10), .int dBc])), ((A 8), .inr (7, [.int 12, .ref (A 9)])), ((A 9), .inl (cy 0, 720, .inl dN)), ((A 10), .inr (7, [.int 60, .ref (A 11)])), ((A 11), .inl (cy 0, 60, .inl dO)), ((A 12), .inr (3, [.ref (A 13), .int dCc])), ((A 13), .inr (7, [.int 5, .ref (A 14)])), ((A 14), .inl (cy 0, 40, .inl dC)), ((A 15), .inr (7, [.int 5, .ref (A 16)])), ((A 16), .inl (cy 0, 5, .inl v37)), (b0, .inr (7, [.int wb, .ref b1])), (b1, .inl (cy 0, lnb, .inl v38))] [(7, .int v39), (6, .int v26), (5, .int u1), (0, .ref (A 0)), (1, .int p0), (2, .int p1), (3, .ref b0), (4, .int p2)] 185 []) → ∀ (n : Nat) (v39 : Int32) (v40 : XRow), wp_X4_takeShare_L154 wb lnb p0 p2 v38 k154_185 n v39 v40 → Gx X 0 0 [((A 0), .inr (5, [.ref (A 1), .ref (A 3), .ref (A 5), .ref (A 7), .ref (A 12), .ref (A 15), .int dMc, .int dZ, .int dPc])), ((A 1), .inr (7, [.int 5, .ref (A 2)])), ((A 2), .inl (cy 0, 5, .inl dS)), ((A 3), .inr (7, [.int 7, .ref (A 4)])), ((A 4), .inl (cy 0, 42, .inl dM)), ((A 5), .inr (7, [.int 5, .ref (A 6)])), ((A 6), .inl (cy 0, 50, .inl v40)), ((A 7), .inr (2, [.ref (A 8), .ref (A 10), .int dBc])), ((A 8), .inr (7, [.int 12, .ref (A 9)])), ((A 9), .inl (cy 0, 720, .inl dN)), ((A 10), .inr (7, [.int 60, .ref (A 11)])), ((A 11), .inl (cy 0, 60, .inl dO)), ((A 12), .inr (3, [.ref (A 13), .int dCc])), ((A 13), .inr (7, [.int 5, .ref (A 14)])), ((A 14), .inl (cy 0, 40, .inl dC)), ((A 15), .inr (7, [.int 5, .ref (A 16)])), ((A 16), .inl (cy 0, 5, .inl v37)), (b0, .inr (7, [.int wb, .ref b1])), (b1, .inl (cy 0, lnb, .inl v38))] [(7, .int v39), (6, .int v26), (5, .int u1), (0, .ref (A 0)), (1, .int p0), (2, .int p1), (3, .ref b0), (4, .int p2)] 154 [] := by
    intro k154_185 hx185 n
    induction n with
    | zero => intro v39 v40 hw; exact hw.elim
    | succ n ih =>
      intro v39 v40 hw
      refine g_iload K 0 dX4_takeShare_154 rfl ?_
      refine g_iconst (v := 5) K dX4_takeShare_156 rfl ?_
      refine g_icmp_ge (tgt := 185) K dX4_takeShare_157 (by decide) (fun hc => ?_) (fun hc => ?_)
      · replace hw := hw.1 hc
        exact hx185 _ _ hw
      · replace hw := hw.2 hc
        refine g_aload_n K 3 dX4_takeShare_160 rfl ?_
        refine g_get K (C := RX4) (T := TX4) (N := 9) 0 2 in_X4_takeShare_X4 (by decide +kernel) rfl rfl (by decide) rfl dX4_takeShare_161 ?_
        refine g_iload_n K 4 dX4_takeShare_164 rfl ?_
        refine g_iload K 0 dX4_takeShare_165 rfl ?_
        refine g_aload_n K 6 dX4_takeShare_167 rfl ?_
        refine g_iload K 7 dX4_takeShare_168 rfl ?_
        refine g_iload K 0 dX4_takeShare_170 rfl ?_
        refine g_callVr (st' := fun u41 => [.int u41, .int v39, .int p0, .ref (A 5)]) K hR [.int p2, .int v39] [.int v39, .int p0, .ref (A 5)] 17 rfl rfl (c_X6_get X.2.1 (gxD X) cy sd b0 b1 wb lnb v38 p2 v39 hw) gX4_takeShare_X6_get rfl yok_X6_get rfl rfl (by decide) rfl (Nat.le_of_ble_eq_true rfl) dX4_takeShare_172 [17, 18] rfl (by decide) (fun _ => rfl) ⟨rfl, rfl⟩ (fun u41 hw => ?_)
        refine g_ineg K dX4_takeShare_175 ?_
        refine g_callV (st' := fun u42 => []) (ws' := fun u42 => [((A 0), .inr (5, [.ref (A 1), .ref (A 3), .ref (A 5), .ref (A 7), .ref (A 12), .ref (A 15), .int dMc, .int dZ, .int dPc])), ((A 1), .inr (7, [.int 5, .ref (A 2)])), ((A 2), .inl (cy 0, 5, .inl dS)), ((A 3), .inr (7, [.int 7, .ref (A 4)])), ((A 4), .inl (cy 0, 42, .inl dM)), ((A 5), .inr (7, [.int 5, .ref (A 6)])), ((A 6), .inl (cy 0, 50, .inl u42)), ((A 7), .inr (2, [.ref (A 8), .ref (A 10), .int dBc])), ((A 8), .inr (7, [.int 12, .ref (A 9)])), ((A 9), .inl (cy 0, 720, .inl dN)), ((A 10), .inr (7, [.int 60, .ref (A 11)])), ((A 11), .inl (cy 0, 60, .inl dO)), ((A 12), .inr (3, [.ref (A 13), .int dCc])), ((A 13), .inr (7, [.int 5, .ref (A 14)])), ((A 14), .inl (cy 0, 40, .inl dC)), ((A 15), .inr (7, [.int 5, .ref (A 16)])), ((A 16), .inl (cy 0, 5, .inl v37)), (b0, .inr (7, [.int wb, .ref b1])), (b1, .inl (cy 0, lnb, .inl v38))]) K hR [.int p0, .int v39, .int (-u41)] [] 5 rfl rfl (c_X6_add X.2.1 (gxD X) cy sd (A 5) (A 6) 5 50 v40 p0 v39 (-u41) hw) gX4_takeShare_X6_add rfl yok_X6_add rfl rfl (by decide) rfl (Nat.le_of_ble_eq_true rfl) dX4_takeShare_176 [5, 6] rfl (by decide) (fun _ => rfl) (fun _ => rfl) (fun _ => rfl) ⟨rfl, rfl⟩ (fun u42 hw => ?_)
        obtain ⟨x43, ex43⟩ : ∃ z : Int32, z = v39 + 1 := ⟨_, rfl⟩
        replace hw := hw x43 ex43
        refine g_iinc (v := x43) (lv' := [(7, .int x43), (6, .int v26), (5, .int u1), (0, .ref (A 0)), (1, .int p0), (2, .int p1), (3, .ref b0), (4, .int p2)]) K 0 dX4_takeShare_179 rfl (by rw [ex43]; rfl) (by rw [En]; decide) rfl ?_
        refine g_goto (tgt := 154) K dX4_takeShare_182 (by decide) ?_
        exact ih _ _ hw
  refine key _ (fun v44 v45 hw => ?_) fl _ _ hw
  exact g_vret K E Er (v45, v37, v38) hw rfl rfl (Nat.le_refl _) (Nat.le_refl _) dX4_takeShare_185

def wp_X4_buyerOf (dN : XRow) (dC : XRow) (dCc : Int32) (p0 : Int32) (post : Int32 → Prop) : Prop := wp_X0_isInStock dN p0 (fun u1 : Bool => (u1 = true → (wp_X6_get 12 720 dN p0 8 (fun u2 : Int32 => wp_X0_materialOf dN p0 (fun u3 : Int32 => wp_X6_get 12 720 dN p0 6 (fun u4 : Int32 => wp_X1_bestFor dC dCc u3 u2 u4 (fun u5 : Int32 => post u5)))))) ∧ (u1 = false → (post (-1))))
theorem in_X4_buyerOf_X0 : ∀ w ∈ u_ws RX0 TX0 3, w ∈ wsX4_buyerOf := by decide +kernel
theorem in_X4_buyerOf_X4 : ∀ w ∈ u_ws RX4 TX4 9, w ∈ wsX4_buyerOf := by decide +kernel
set_option maxRecDepth 100000 in
set_option maxHeartbeats 4000000 in
theorem c_X4_buyerOf (l : Launch) (D : va_G) (cy : Nat → ClassId) (sd : xSd) (A : Nat → Nat) (dS : XRow) (dM : XRow) (dP : XRow) (dN : XRow) (dBc : Int32) (dO : XRow) (dC : XRow) (dCc : Int32) (dR : XRow) (dMc : Int32) (dZ : Int32) (dPc : Int32) (p0 : Int32) {post : Int32 → Prop} (hw : wp_X4_buyerOf dN dC dCc p0 post) : Ctr l D (xTys cy) sd yX4_buyerOf wsX4_buyerOf ({ frames := 3, cells := 0, slots := 0, locals := 72 } : Room) [.ref (A 0), .int p0] (fun u : Int32 => some (.int u)) [((A 0), .inr (5, [.ref (A 1), .ref (A 3), .ref (A 5), .ref (A 7), .ref (A 12), .ref (A 15), .int dMc, .int dZ, .int dPc])), ((A 1), .inr (7, [.int 5, .ref (A 2)])), ((A 2), .inl (cy 0, 5, .inl dS)), ((A 3), .inr (7, [.int 7, .ref (A 4)])), ((A 4), .inl (cy 0, 42, .inl dM)), ((A 5), .inr (7, [.int 5, .ref (A 6)])), ((A 6), .inl (cy 0, 50, .inl dP)), ((A 7), .inr (2, [.ref (A 8), .ref (A 10), .int dBc])), ((A 8), .inr (7, [.int 12, .ref (A 9)])), ((A 9), .inl (cy 0, 720, .inl dN)), ((A 10), .inr (7, [.int 60, .ref (A 11)])), ((A 11), .inl (cy 0, 60, .inl dO)), ((A 12), .inr (3, [.ref (A 13), .int dCc])), ((A 13), .inr (7, [.int 5, .ref (A 14)])), ((A 14), .inl (cy 0, 40, .inl dC)), ((A 15), .inr (7, [.int 5, .ref (A 16)])), ((A 16), .inl (cy 0, 5, .inl dR))] (fun _ => [((A 0), .inr (5, [.ref (A 1), .ref (A 3), .ref (A 5), .ref (A 7), .ref (A 12), .ref (A 15), .int dMc, .int dZ, .int dPc])), ((A 1), .inr (7, [.int 5, .ref (A 2)])), ((A 2), .inl (cy 0, 5, .inl dS)), ((A 3), .inr (7, [.int 7, .ref (A 4)])), ((A 4), .inl (cy 0, 42, .inl dM)), ((A 5), .inr (7, [.int 5, .ref (A 6)])), ((A 6), .inl (cy 0, 50, .inl dP)), ((A 7), .inr (2, [.ref (A 8), .ref (A 10), .int dBc])), ((A 8), .inr (7, [.int 12, .ref (A 9)])), ((A 9), .inl (cy 0, 720, .inl dN)), ((A 10), .inr (7, [.int 60, .ref (A 11)])), ((A 11), .inl (cy 0, 60, .inl dO)), ((A 12), .inr (3, [.ref (A 13), .int dCc])), ((A 13), .inr (7, [.int 5, .ref (A 14)])), ((A 14), .inl (cy 0, 40, .inl dC)), ((A 15), .inr (7, [.int 5, .ref (A 16)])), ((A 16), .inl (cy 0, 5, .inl dR))]) post := by
  refine Ctr.of (cc := cX4_buyerOf) (maxL := 3) (ret := (some .int)) (lv0 := [(0, .ref (A 0)), (1, .int p0)]) (by decide) rfl (Nat.le_of_ble_eq_true rfl) rfl ?_
  intro X El hR Er Enm ED E En K
  have K : Cx X cX4_buyerOf RX4 wsX4_buyerOf (xTys cy) sd := K
  have E : X.2.2.2.2.2.2.2.2.2.2.1 = xMQ X (fun u : Int32 => some (.int u)) post (fun _ => [((A 0), .inr (5, [.ref (A 1), .ref (A 3), .ref (A 5), .ref (A 7), .ref (A 12), .ref (A 15), .int dMc, .int dZ, .int dPc])), ((A 1), .inr (7, [.int 5, .ref (A 2)])), ((A 2), .inl (cy 0, 5, .inl dS)), ((A 3), .inr (7, [.int 7, .ref (A 4)])), ((A 4), .inl (cy 0, 42, .inl dM)), ((A 5), .inr (7, [.int 5, .ref (A 6)])), ((A 6), .inl (cy 0, 50, .inl dP)), ((A 7), .inr (2, [.ref (A 8), .ref (A 10), .int dBc])), ((A 8), .inr (7, [.int 12, .ref (A 9)])), ((A 9), .inl (cy 0, 720, .inl dN)), ((A 10), .inr (7, [.int 60, .ref (A 11)])), ((A 11), .inl (cy 0, 60, .inl dO)), ((A 12), .inr (3, [.ref (A 13), .int dCc])), ((A 13), .inr (7, [.int 5, .ref (A 14)])), ((A 14), .inl (cy 0, 40, .inl dC)), ((A 15), .inr (7, [.int 5, .ref (A 16)])), ((A 16), .inl (cy 0, 5, .inl dR))]) 0 0 := E
  unfold wp_X4_buyerOf at hw
  refine g_aload_n K 0 dX4_buyerOf_0 rfl ?_
  refine g_get K (C := RX4) (T := TX4) (N := 9) 0 3 in_X4_buyerOf_X4 (by decide +kernel) rfl rfl (by decide) rfl dX4_buyerOf_1 ?_
  refine g_iload_n K 1 dX4_buyerOf_4 rfl ?_
  refine g_callVr (st' := fun u1 => [.int (bI u1)]) K hR [.int p0] [] 7 rfl rfl (c_X0_isInStock X.2.1 (gxD X) cy sd (A 7) (A 8) (A 9) (A 10) (A 11) dN dBc dO p0 hw) gX4_buyerOf_X0_isInStock rfl yok_X0_isInStock rfl rfl (by decide) rfl (Nat.le_of_ble_eq_true rfl) dX4_buyerOf_5 [7, 8, 9, 10, 11] rfl (by decide) (fun _ => rfl) ⟨rfl, rfl⟩ (fun u1 hw => ?_)
  refine g_ifb_ne (tgt := 13) K dX4_buyerOf_8 (by decide) (fun hc => ?_) (fun hc => ?_)
  · replace hw := hw.1 hc
    refine g_aload_n K 0 dX4_buyerOf_13 rfl ?_
    refine g_get K (C := RX4) (T := TX4) (N := 9) 0 3 in_X4_buyerOf_X4 (by decide +kernel) rfl rfl (by decide) rfl dX4_buyerOf_14 ?_
    refine g_get K (C := RX0) (T := TX0) (N := 3) 7 0 in_X4_buyerOf_X0 (by decide +kernel) rfl rfl (by decide) rfl dX4_buyerOf_17 ?_
    refine g_iload_n K 1 dX4_buyerOf_20 rfl ?_
    refine g_bipush (v := 8) K dX4_buyerOf_21 rfl ?_
    refine g_callVr (st' := fun u2 => [.int u2]) K hR [.int p0, .int 8] [] 8 rfl rfl (c_X6_get X.2.1 (gxD X) cy sd (A 8) (A 9) 12 720 dN p0 8 hw) gX4_buyerOf_X6_get rfl yok_X6_get rfl rfl (by decide) rfl (Nat.le_of_ble_eq_true rfl) dX4_buyerOf_23 [8, 9] rfl (by decide) (fun _ => rfl) ⟨rfl, rfl⟩ (fun u2 hw => ?_)
    refine g_istore_n (lv' := [(2, .int u2), (0, .ref (A 0)), (1, .int p0)]) K dX4_buyerOf_26 rfl (by rw [En]; decide) rfl ?_
    refine g_aload_n K 1 dX4_buyerOf_27 rfl ?_
    refine g_get K (C := RX4) (T := TX4) (N := 9) 0 4 in_X4_buyerOf_X4 (by decide +kernel) rfl rfl (by decide) rfl dX4_buyerOf_28 ?_
    refine g_aload_n K 1 dX4_buyerOf_31 rfl ?_
    refine g_get K (C := RX4) (T := TX4) (N := 9) 0 3 in_X4_buyerOf_X4 (by decide +kernel) rfl rfl (by decide) rfl dX4_buyerOf_32 ?_
    refine g_iload_n K 2 dX4_buyerOf_35 rfl ?_
    refine g_callVr (st' := fun u3 => [.int u3, .ref (A 12)]) K hR [.int p0] [.ref (A 12)] 7 rfl rfl (c_X0_materialOf X.2.1 (gxD X) cy sd (A 7) (A 8) (A 9) (A 10) (A 11) dN dBc dO p0 hw) gX4_buyerOf_X0_materialOf rfl yok_X0_materialOf rfl rfl (by decide) rfl (Nat.le_of_ble_eq_true rfl) dX4_buyerOf_36 [7, 8, 9, 10, 11] rfl (by decide) (fun _ => rfl) ⟨rfl, rfl⟩ (fun u3 hw => ?_)
    refine g_iload_n K 0 dX4_buyerOf_39 rfl ?_
    refine g_aload_n K 1 dX4_buyerOf_40 rfl ?_
    refine g_get K (C := RX4) (T := TX4) (N := 9) 0 3 in_X4_buyerOf_X4 (by decide +kernel) rfl rfl (by decide) rfl dX4_buyerOf_41 ?_
    refine g_get K (C := RX0) (T := TX0) (N := 3) 7 0 in_X4_buyerOf_X0 (by decide +kernel) rfl rfl (by decide) rfl dX4_buyerOf_44 ?_
    refine g_iload_n K 2 dX4_buyerOf_47 rfl ?_
    refine g_bipush (v := 6) K dX4_buyerOf_48 rfl ?_
    refine g_callVr (st' := fun u4 => [.int u4, .int u2, .int u3, .ref (A 12)]) K hR [.int p0, .int 6] [.int u2, .int u3, .ref (A 12)] 8 rfl rfl (c_X6_get X.2.1 (gxD X) cy sd (A 8) (A 9) 12 720 dN p0 6 hw) gX4_buyerOf_X6_get rfl yok_X6_get rfl rfl (by decide) rfl (Nat.le_of_ble_eq_true rfl) dX4_buyerOf_50 [8, 9] rfl (by decide) (fun _ => rfl) ⟨rfl, rfl⟩ (fun u4 hw => ?_)
    refine g_callVr (st' := fun u5 => [.int u5]) K hR [.int u3, .int u2, .int u4] [] 12 rfl rfl (c_X1_bestFor X.2.1 (gxD X) cy sd (A 12) (A 13) (A 14) dC dCc u3 u2 u4 hw) gX4_buyerOf_X1_bestFor rfl yok_X1_bestFor rfl rfl (by decide) rfl (Nat.le_of_ble_eq_true rfl) dX4_buyerOf_53 [12, 13, 14] rfl (by decide) (fun _ => rfl) ⟨rfl, rfl⟩ (fun u5 hw => ?_)
    exact g_zret K E Er u5 hw rfl rfl rfl (Nat.le_refl _) (Nat.le_refl _) dX4_buyerOf_56
  · replace hw := hw.2 hc
    refine g_iconst (v := (-1)) K dX4_buyerOf_11 rfl ?_
    exact g_zret K E Er (-1) hw rfl rfl rfl (Nat.le_refl _) (Nat.le_refl _) dX4_buyerOf_12

def wp_X4_refusalOf (dN : XRow) (dC : XRow) (dCc : Int32) (p0 : Int32) (post : Int32 → Prop) : Prop := wp_X0_materialOf dN p0 (fun u1 : Int32 => wp_X1_leastFloor dC dCc u1 (fun u2 : Int32 => wp_X0_isInStock dN p0 (fun u3 : Bool => (u3 = true → ((u2 = (-1) → (post 2)) ∧ (¬ u2 = (-1) → (wp_X6_get 12 720 dN p0 8 (fun u4 : Int32 => (u2 ≤ u4 → (wp_X4_buyerOf dN dC dCc p0 (fun u5 : Int32 => (u5 = (-1) → (post 4)) ∧ (¬ u5 = (-1) → (post 0))))) ∧ (¬ u2 ≤ u4 → (post 3))))))) ∧ (u3 = false → (post 1)))))
theorem in_X4_refusalOf_X0 : ∀ w ∈ u_ws RX0 TX0 3, w ∈ wsX4_refusalOf := by decide +kernel
theorem in_X4_refusalOf_X4 : ∀ w ∈ u_ws RX4 TX4 9, w ∈ wsX4_refusalOf := by decide +kernel
set_option maxRecDepth 100000 in
set_option maxHeartbeats 4000000 in
theorem c_X4_refusalOf (l : Launch) (D : va_G) (cy : Nat → ClassId) (sd : xSd) (A : Nat → Nat) (dS : XRow) (dM : XRow) (dP : XRow) (dN : XRow) (dBc : Int32) (dO : XRow) (dC : XRow) (dCc : Int32) (dR : XRow) (dMc : Int32) (dZ : Int32) (dPc : Int32) (p0 : Int32) {post : Int32 → Prop} (hw : wp_X4_refusalOf dN dC dCc p0 post) : Ctr l D (xTys cy) sd yX4_refusalOf wsX4_refusalOf ({ frames := 4, cells := 0, slots := 0, locals := 94 } : Room) [.ref (A 0), .int p0] (fun u : Int32 => some (.int u)) [((A 0), .inr (5, [.ref (A 1), .ref (A 3), .ref (A 5), .ref (A 7), .ref (A 12), .ref (A 15), .int dMc, .int dZ, .int dPc])), ((A 1), .inr (7, [.int 5, .ref (A 2)])), ((A 2), .inl (cy 0, 5, .inl dS)), ((A 3), .inr (7, [.int 7, .ref (A 4)])), ((A 4), .inl (cy 0, 42, .inl dM)), ((A 5), .inr (7, [.int 5, .ref (A 6)])), ((A 6), .inl (cy 0, 50, .inl dP)), ((A 7), .inr (2, [.ref (A 8), .ref (A 10), .int dBc])), ((A 8), .inr (7, [.int 12, .ref (A 9)])), ((A 9), .inl (cy 0, 720, .inl dN)), ((A 10), .inr (7, [.int 60, .ref (A 11)])), ((A 11), .inl (cy 0, 60, .inl dO)), ((A 12), .inr (3, [.ref (A 13), .int dCc])), ((A 13), .inr (7, [.int 5, .ref (A 14)])), ((A 14), .inl (cy 0, 40, .inl dC)), ((A 15), .inr (7, [.int 5, .ref (A 16)])), ((A 16), .inl (cy 0, 5, .inl dR))] (fun _ => [((A 0), .inr (5, [.ref (A 1), .ref (A 3), .ref (A 5), .ref (A 7), .ref (A 12), .ref (A 15), .int dMc, .int dZ, .int dPc])), ((A 1), .inr (7, [.int 5, .ref (A 2)])), ((A 2), .inl (cy 0, 5, .inl dS)), ((A 3), .inr (7, [.int 7, .ref (A 4)])), ((A 4), .inl (cy 0, 42, .inl dM)), ((A 5), .inr (7, [.int 5, .ref (A 6)])), ((A 6), .inl (cy 0, 50, .inl dP)), ((A 7), .inr (2, [.ref (A 8), .ref (A 10), .int dBc])), ((A 8), .inr (7, [.int 12, .ref (A 9)])), ((A 9), .inl (cy 0, 720, .inl dN)), ((A 10), .inr (7, [.int 60, .ref (A 11)])), ((A 11), .inl (cy 0, 60, .inl dO)), ((A 12), .inr (3, [.ref (A 13), .int dCc])), ((A 13), .inr (7, [.int 5, .ref (A 14)])), ((A 14), .inl (cy 0, 40, .inl dC)), ((A 15), .inr (7, [.int 5, .ref (A 16)])), ((A 16), .inl (cy 0, 5, .inl dR))]) post := by
  refine Ctr.of (cc := cX4_refusalOf) (maxL := 3) (ret := (some .int)) (lv0 := [(0, .ref (A 0)), (1, .int p0)]) (by decide) rfl (Nat.le_of_ble_eq_true rfl) rfl ?_
  intro X El hR Er Enm ED E En K
  have K : Cx X cX4_refusalOf RX4 wsX4_refusalOf (xTys cy) sd := K
  have E : X.2.2.2.2.2.2.2.2.2.2.1 = xMQ X (fun u : Int32 => some (.int u)) post (fun _ => [((A 0), .inr (5, [.ref (A 1), .ref (A 3), .ref (A 5), .ref (A 7), .ref (A 12), .ref (A 15), .int dMc, .int dZ, .int dPc])), ((A 1), .inr (7, [.int 5, .ref (A 2)])), ((A 2), .inl (cy 0, 5, .inl dS)), ((A 3), .inr (7, [.int 7, .ref (A 4)])), ((A 4), .inl (cy 0, 42, .inl dM)), ((A 5), .inr (7, [.int 5, .ref (A 6)])), ((A 6), .inl (cy 0, 50, .inl dP)), ((A 7), .inr (2, [.ref (A 8), .ref (A 10), .int dBc])), ((A 8), .inr (7, [.int 12, .ref (A 9)])), ((A 9), .inl (cy 0, 720, .inl dN)), ((A 10), .inr (7, [.int 60, .ref (A 11)])), ((A 11), .inl (cy 0, 60, .inl dO)), ((A 12), .inr (3, [.ref (A 13), .int dCc])), ((A 13), .inr (7, [.int 5, .ref (A 14)])), ((A 14), .inl (cy 0, 40, .inl dC)), ((A 15), .inr (7, [.int 5, .ref (A 16)])), ((A 16), .inl (cy 0, 5, .inl dR))]) 0 0 := E
  unfold wp_X4_refusalOf at hw
  refine g_aload_n K 0 dX4_refusalOf_0 rfl ?_
  refine g_get K (C := RX4) (T := TX4) (N := 9) 0 4 in_X4_refusalOf_X4 (by decide +kernel) rfl rfl (by decide) rfl dX4_refusalOf_1 ?_
  refine g_aload_n K 0 dX4_refusalOf_4 rfl ?_
  refine g_get K (C := RX4) (T := TX4) (N := 9) 0 3 in_X4_refusalOf_X4 (by decide +kernel) rfl rfl (by decide) rfl dX4_refusalOf_5 ?_
  refine g_iload_n K 1 dX4_refusalOf_8 rfl ?_
  refine g_callVr (st' := fun u1 => [.int u1, .ref (A 12)]) K hR [.int p0] [.ref (A 12)] 7 rfl rfl (c_X0_materialOf X.2.1 (gxD X) cy sd (A 7) (A 8) (A 9) (A 10) (A 11) dN dBc dO p0 hw) gX4_refusalOf_X0_materialOf rfl yok_X0_materialOf rfl rfl (by decide) rfl (Nat.le_of_ble_eq_true rfl) dX4_refusalOf_9 [7, 8, 9, 10, 11] rfl (by decide) (fun _ => rfl) ⟨rfl, rfl⟩ (fun u1 hw => ?_)
  refine g_callVr (st' := fun u2 => [.int u2]) K hR [.int u1] [] 12 rfl rfl (c_X1_leastFloor X.2.1 (gxD X) cy sd (A 12) (A 13) (A 14) dC dCc u1 hw) gX4_refusalOf_X1_leastFloor rfl yok_X1_leastFloor rfl rfl (by decide) rfl (Nat.le_of_ble_eq_true rfl) dX4_refusalOf_12 [12, 13, 14] rfl (by decide) (fun _ => rfl) ⟨rfl, rfl⟩ (fun u2 hw => ?_)
  refine g_istore_n (lv' := [(2, .int u2), (0, .ref (A 0)), (1, .int p0)]) K dX4_refusalOf_15 rfl (by rw [En]; decide) rfl ?_
  refine g_aload_n K 1 dX4_refusalOf_16 rfl ?_
  refine g_get K (C := RX4) (T := TX4) (N := 9) 0 3 in_X4_refusalOf_X4 (by decide +kernel) rfl rfl (by decide) rfl dX4_refusalOf_17 ?_
  refine g_iload_n K 2 dX4_refusalOf_20 rfl ?_
  refine g_callVr (st' := fun u3 => [.int (bI u3)]) K hR [.int p0] [] 7 rfl rfl (c_X0_isInStock X.2.1 (gxD X) cy sd (A 7) (A 8) (A 9) (A 10) (A 11) dN dBc dO p0 hw) gX4_refusalOf_X0_isInStock rfl yok_X0_isInStock rfl rfl (by decide) rfl (Nat.le_of_ble_eq_true rfl) dX4_refusalOf_21 [7, 8, 9, 10, 11] rfl (by decide) (fun _ => rfl) ⟨rfl, rfl⟩ (fun u3 hw => ?_)
  refine g_ifb_ne (tgt := 29) K dX4_refusalOf_24 (by decide) (fun hc => ?_) (fun hc => ?_)
  · replace hw := hw.1 hc
    refine g_iload_n K 0 dX4_refusalOf_29 rfl ?_
    refine g_iconst (v := (-1)) K dX4_refusalOf_30 rfl ?_
    refine g_icmp_ne (tgt := 36) K dX4_refusalOf_31 (by decide) (fun hc => ?_) (fun hc => ?_)
    · replace hw := hw.2 hc
      refine g_aload_n K 1 dX4_refusalOf_36 rfl ?_
      refine g_get K (C := RX4) (T := TX4) (N := 9) 0 3 in_X4_refusalOf_X4 (by decide +kernel) rfl rfl (by decide) rfl dX4_refusalOf_37 ?_
      refine g_get K (C := RX0) (T := TX0) (N := 3) 7 0 in_X4_refusalOf_X0 (by decide +kernel) rfl rfl (by decide) rfl dX4_refusalOf_40 ?_
      refine g_iload_n K 2 dX4_refusalOf_43 rfl ?_
      refine g_bipush (v := 8) K dX4_refusalOf_44 rfl ?_
      refine g_callVr (st' := fun u4 => [.int u4]) K hR [.int p0, .int 8] [] 8 rfl rfl (c_X6_get X.2.1 (gxD X) cy sd (A 8) (A 9) 12 720 dN p0 8 hw) gX4_refusalOf_X6_get rfl yok_X6_get rfl rfl (by decide) rfl (Nat.le_of_ble_eq_true rfl) dX4_refusalOf_46 [8, 9] rfl (by decide) (fun _ => rfl) ⟨rfl, rfl⟩ (fun u4 hw => ?_)
      refine g_iload_n K 0 dX4_refusalOf_49 rfl ?_
      refine g_icmp_ge (tgt := 55) K dX4_refusalOf_50 (by decide) (fun hc => ?_) (fun hc => ?_)
      · replace hw := hw.1 hc
        refine g_aload_n K 1 dX4_refusalOf_55 rfl ?_
        refine g_iload_n K 2 dX4_refusalOf_56 rfl ?_
        refine g_callVr (st' := fun u5 => [.int u5]) K hR [.int p0] [] 0 rfl rfl (c_X4_buyerOf X.2.1 (gxD X) cy sd A dS dM dP dN dBc dO dC dCc dR dMc dZ dPc p0 hw) gX4_refusalOf_X4_buyerOf rfl yok_X4_buyerOf rfl rfl (by decide) rfl (Nat.le_of_ble_eq_true rfl) dX4_refusalOf_57 [0, 1, 2, 3, 4, 5, 6, 7, 8, 9, 10, 11, 12, 13, 14, 15, 16] rfl (by decide) (fun _ => rfl) ⟨rfl, rfl⟩ (fun u5 hw => ?_)
        refine g_iconst (v := (-1)) K dX4_refusalOf_60 rfl ?_
        refine g_icmp_ne (tgt := 68) K dX4_refusalOf_61 (by decide) (fun hc => ?_) (fun hc => ?_)
        · replace hw := hw.2 hc
          refine g_iconst (v := 0) K dX4_refusalOf_68 rfl ?_
          exact g_zret K E Er 0 hw rfl rfl rfl (Nat.le_refl _) (Nat.le_refl _) dX4_refusalOf_69
        · replace hw := hw.1 hc
          refine g_iconst (v := 4) K dX4_refusalOf_64 rfl ?_
          refine g_goto (tgt := 69) K dX4_refusalOf_65 (by decide) ?_
          exact g_zret K E Er 4 hw rfl rfl rfl (Nat.le_refl _) (Nat.le_refl _) dX4_refusalOf_69
      · replace hw := hw.2 hc
        refine g_iconst (v := 3) K dX4_refusalOf_53 rfl ?_
        exact g_zret K E Er 3 hw rfl rfl rfl (Nat.le_refl _) (Nat.le_refl _) dX4_refusalOf_54
    · replace hw := hw.1 hc
      refine g_iconst (v := 2) K dX4_refusalOf_34 rfl ?_
      exact g_zret K E Er 2 hw rfl rfl rfl (Nat.le_refl _) (Nat.le_refl _) dX4_refusalOf_35
  · replace hw := hw.2 hc
    refine g_iconst (v := 1) K dX4_refusalOf_27 rfl ?_
    exact g_zret K E Er 1 hw rfl rfl rfl (Nat.le_refl _) (Nat.le_refl _) dX4_refusalOf_28

def wp_X4_detailOf (dN : XRow) (dC : XRow) (dCc : Int32) (p0 : Int32) (p1 : Int32) (post : Int32 → Prop) : Prop := wp_X0_materialOf dN p0 (fun u1 : Int32 => ((p1.toInt < 1 ∨ 1 + (3 : Nat) ≤ p1.toInt) → (wp_X6_get 12 720 dN p0 8 (fun u2 : Int32 => wp_X1_mostWanted dC dCc u1 u2 (fun u3 : Int32 => post u3)))) ∧ (p1 = 1 → (wp_X6_get 12 720 dN p0 10 (fun u4 : Int32 => post u4))) ∧ (p1 = 2 → (post u1)) ∧ (p1 = 3 → (wp_X1_leastFloor dC dCc u1 (fun u5 : Int32 => post u5))))
theorem in_X4_detailOf_X0 : ∀ w ∈ u_ws RX0 TX0 3, w ∈ wsX4_detailOf := by decide +kernel
theorem in_X4_detailOf_X4 : ∀ w ∈ u_ws RX4 TX4 9, w ∈ wsX4_detailOf := by decide +kernel
set_option maxRecDepth 100000 in
set_option maxHeartbeats 4000000 in
theorem c_X4_detailOf (l : Launch) (D : va_G) (cy : Nat → ClassId) (sd : xSd) (A : Nat → Nat) (dS : XRow) (dM : XRow) (dP : XRow) (dN : XRow) (dBc : Int32) (dO : XRow) (dC : XRow) (dCc : Int32) (dR : XRow) (dMc : Int32) (dZ : Int32) (dPc : Int32) (p0 : Int32) (p1 : Int32) {post : Int32 → Prop} (hw : wp_X4_detailOf dN dC dCc p0 p1 post) : Ctr l D (xTys cy) sd yX4_detailOf wsX4_detailOf ({ frames := 3, cells := 0, slots := 0, locals := 69 } : Room) [.ref (A 0), .int p0, .int p1] (fun u : Int32 => some (.int u)) [((A 0), .inr (5, [.ref (A 1), .ref (A 3), .ref (A 5), .ref (A 7), .ref (A 12), .ref (A 15), .int dMc, .int dZ, .int dPc])), ((A 1), .inr (7, [.int 5, .ref (A 2)])), ((A 2), .inl (cy 0, 5, .inl dS)), ((A 3), .inr (7, [.int 7, .ref (A 4)])), ((A 4), .inl (cy 0, 42, .inl dM)), ((A 5), .inr (7, [.int 5, .ref (A 6)])), ((A 6), .inl (cy 0, 50, .inl dP)), ((A 7), .inr (2, [.ref (A 8), .ref (A 10), .int dBc])), ((A 8), .inr (7, [.int 12, .ref (A 9)])), ((A 9), .inl (cy 0, 720, .inl dN)), ((A 10), .inr (7, [.int 60, .ref (A 11)])), ((A 11), .inl (cy 0, 60, .inl dO)), ((A 12), .inr (3, [.ref (A 13), .int dCc])), ((A 13), .inr (7, [.int 5, .ref (A 14)])), ((A 14), .inl (cy 0, 40, .inl dC)), ((A 15), .inr (7, [.int 5, .ref (A 16)])), ((A 16), .inl (cy 0, 5, .inl dR))] (fun _ => [((A 0), .inr (5, [.ref (A 1), .ref (A 3), .ref (A 5), .ref (A 7), .ref (A 12), .ref (A 15), .int dMc, .int dZ, .int dPc])), ((A 1), .inr (7, [.int 5, .ref (A 2)])), ((A 2), .inl (cy 0, 5, .inl dS)), ((A 3), .inr (7, [.int 7, .ref (A 4)])), ((A 4), .inl (cy 0, 42, .inl dM)), ((A 5), .inr (7, [.int 5, .ref (A 6)])), ((A 6), .inl (cy 0, 50, .inl dP)), ((A 7), .inr (2, [.ref (A 8), .ref (A 10), .int dBc])), ((A 8), .inr (7, [.int 12, .ref (A 9)])), ((A 9), .inl (cy 0, 720, .inl dN)), ((A 10), .inr (7, [.int 60, .ref (A 11)])), ((A 11), .inl (cy 0, 60, .inl dO)), ((A 12), .inr (3, [.ref (A 13), .int dCc])), ((A 13), .inr (7, [.int 5, .ref (A 14)])), ((A 14), .inl (cy 0, 40, .inl dC)), ((A 15), .inr (7, [.int 5, .ref (A 16)])), ((A 16), .inl (cy 0, 5, .inl dR))]) post := by
  refine Ctr.of (cc := cX4_detailOf) (maxL := 4) (ret := (some .int)) (lv0 := [(0, .ref (A 0)), (1, .int p0), (2, .int p1)]) (by decide) rfl (Nat.le_of_ble_eq_true rfl) rfl ?_
  intro X El hR Er Enm ED E En K
  have K : Cx X cX4_detailOf RX4 wsX4_detailOf (xTys cy) sd := K
  have E : X.2.2.2.2.2.2.2.2.2.2.1 = xMQ X (fun u : Int32 => some (.int u)) post (fun _ => [((A 0), .inr (5, [.ref (A 1), .ref (A 3), .ref (A 5), .ref (A 7), .ref (A 12), .ref (A 15), .int dMc, .int dZ, .int dPc])), ((A 1), .inr (7, [.int 5, .ref (A 2)])), ((A 2), .inl (cy 0, 5, .inl dS)), ((A 3), .inr (7, [.int 7, .ref (A 4)])), ((A 4), .inl (cy 0, 42, .inl dM)), ((A 5), .inr (7, [.int 5, .ref (A 6)])), ((A 6), .inl (cy 0, 50, .inl dP)), ((A 7), .inr (2, [.ref (A 8), .ref (A 10), .int dBc])), ((A 8), .inr (7, [.int 12, .ref (A 9)])), ((A 9), .inl (cy 0, 720, .inl dN)), ((A 10), .inr (7, [.int 60, .ref (A 11)])), ((A 11), .inl (cy 0, 60, .inl dO)), ((A 12), .inr (3, [.ref (A 13), .int dCc])), ((A 13), .inr (7, [.int 5, .ref (A 14)])), ((A 14), .inl (cy 0, 40, .inl dC)), ((A 15), .inr (7, [.int 5, .ref (A 16)])), ((A 16), .inl (cy 0, 5, .inl dR))]) 0 0 := E
  unfold wp_X4_detailOf at hw
  refine g_aload_n K 0 dX4_detailOf_0 rfl ?_
  refine g_get K (C := RX4) (T := TX4) (N := 9) 0 3 in_X4_detailOf_X4 (by decide +kernel) rfl rfl (by decide) rfl dX4_detailOf_1 ?_
  refine g_iload_n K 1 dX4_detailOf_4 rfl ?_
  refine g_callVr (st' := fun u1 => [.int u1]) K hR [.int p0] [] 7 rfl rfl (c_X0_materialOf X.2.1 (gxD X) cy sd (A 7) (A 8) (A 9) (A 10) (A 11) dN dBc dO p0 hw) gX4_detailOf_X0_materialOf rfl yok_X0_materialOf rfl rfl (by decide) rfl (Nat.le_of_ble_eq_true rfl) dX4_detailOf_5 [7, 8, 9, 10, 11] rfl (by decide) (fun _ => rfl) ⟨rfl, rfl⟩ (fun u1 hw => ?_)
  refine g_istore_n (lv' := [(3, .int u1), (0, .ref (A 0)), (1, .int p0), (2, .int p1)]) K dX4_detailOf_8 rfl (by rw [En]; decide) rfl ?_
  refine g_iload_n K 3 dX4_detailOf_9 rfl ?_
  rcases sw_out (x := p1) (lo := 1) (n := 3) with hc | ⟨k, hk, hc⟩
  · refine g_tableOut (tgt := 61) K dX4_detailOf_10 (by omega) (by decide) ?_
    replace hw := hw.1 hc
    refine g_aload_n K 1 dX4_detailOf_61 rfl ?_
    refine g_get K (C := RX4) (T := TX4) (N := 9) 0 4 in_X4_detailOf_X4 (by decide +kernel) rfl rfl (by decide) rfl dX4_detailOf_62 ?_
    refine g_iload_n K 0 dX4_detailOf_65 rfl ?_
    refine g_aload_n K 1 dX4_detailOf_66 rfl ?_
    refine g_get K (C := RX4) (T := TX4) (N := 9) 0 3 in_X4_detailOf_X4 (by decide +kernel) rfl rfl (by decide) rfl dX4_detailOf_67 ?_
    refine g_get K (C := RX0) (T := TX0) (N := 3) 7 0 in_X4_detailOf_X0 (by decide +kernel) rfl rfl (by decide) rfl dX4_detailOf_70 ?_
    refine g_iload_n K 2 dX4_detailOf_73 rfl ?_
    refine g_bipush (v := 8) K dX4_detailOf_74 rfl ?_
    refine g_callVr (st' := fun u2 => [.int u2, .int u1, .ref (A 12)]) K hR [.int p0, .int 8] [.int u1, .ref (A 12)] 8 rfl rfl (c_X6_get X.2.1 (gxD X) cy sd (A 8) (A 9) 12 720 dN p0 8 hw) gX4_detailOf_X6_get rfl yok_X6_get rfl rfl (by decide) rfl (Nat.le_of_ble_eq_true rfl) dX4_detailOf_76 [8, 9] rfl (by decide) (fun _ => rfl) ⟨rfl, rfl⟩ (fun u2 hw => ?_)
    refine g_callVr (st' := fun u3 => [.int u3]) K hR [.int u1, .int u2] [] 12 rfl rfl (c_X1_mostWanted X.2.1 (gxD X) cy sd (A 12) (A 13) (A 14) dC dCc u1 u2 hw) gX4_detailOf_X1_mostWanted rfl yok_X1_mostWanted rfl rfl (by decide) rfl (Nat.le_of_ble_eq_true rfl) dX4_detailOf_79 [12, 13, 14] rfl (by decide) (fun _ => rfl) ⟨rfl, rfl⟩ (fun u3 hw => ?_)
    exact g_zret K E Er u3 hw rfl rfl rfl (Nat.le_refl _) (Nat.le_refl _) dX4_detailOf_82
  · replace hw := hw.2
    rcases (show k = 0 ∨ 1 ≤ k by omega) with hk0 | hk0
    · have hx9 : p1 = 1 := Int32.toInt_inj.mp (by rw [hc, hk0]; decide)
      refine g_tableIn (tgt := 36) (off := 26) K dX4_detailOf_10 (by rw [hx9]; decide) (by rw [hx9]; decide) (by rw [hx9]; rfl) (by decide) ?_
      replace hw := hw.1 hx9
      refine g_aload_n K 1 dX4_detailOf_36 rfl ?_
      refine g_get K (C := RX4) (T := TX4) (N := 9) 0 3 in_X4_detailOf_X4 (by decide +kernel) rfl rfl (by decide) rfl dX4_detailOf_37 ?_
      refine g_get K (C := RX0) (T := TX0) (N := 3) 7 0 in_X4_detailOf_X0 (by decide +kernel) rfl rfl (by decide) rfl dX4_detailOf_40 ?_
      refine g_iload_n K 2 dX4_detailOf_43 rfl ?_
      refine g_bipush (v := 10) K dX4_detailOf_44 rfl ?_
      refine g_callVr (st' := fun u4 => [.int u4]) K hR [.int p0, .int 10] [] 8 rfl rfl (c_X6_get X.2.1 (gxD X) cy sd (A 8) (A 9) 12 720 dN p0 10 hw) gX4_detailOf_X6_get rfl yok_X6_get rfl rfl (by decide) rfl (Nat.le_of_ble_eq_true rfl) dX4_detailOf_46 [8, 9] rfl (by decide) (fun _ => rfl) ⟨rfl, rfl⟩ (fun u4 hw => ?_)
      exact g_zret K E Er u4 hw rfl rfl rfl (Nat.le_refl _) (Nat.le_refl _) dX4_detailOf_49
    replace hw := hw.2
    rcases (show k = 1 ∨ 2 ≤ k by omega) with hk1 | hk1
    · have hx9 : p1 = 2 := Int32.toInt_inj.mp (by rw [hc, hk1]; decide)
      refine g_tableIn (tgt := 50) (off := 40) K dX4_detailOf_10 (by rw [hx9]; decide) (by rw [hx9]; decide) (by rw [hx9]; rfl) (by decide) ?_
      replace hw := hw.1 hx9
      refine g_iload_n K 0 dX4_detailOf_50 rfl ?_
      exact g_zret K E Er u1 hw rfl rfl rfl (Nat.le_refl _) (Nat.le_refl _) dX4_detailOf_51
    replace hw := hw.2
    have hx9 : p1 = 3 := Int32.toInt_inj.mp (by rw [hc, show k = 2 by omega]; decide)
    refine g_tableIn (tgt := 52) (off := 42) K dX4_detailOf_10 (by rw [hx9]; decide) (by rw [hx9]; decide) (by rw [hx9]; rfl) (by decide) ?_
    replace hw := hw hx9
    refine g_aload_n K 1 dX4_detailOf_52 rfl ?_
    refine g_get K (C := RX4) (T := TX4) (N := 9) 0 4 in_X4_detailOf_X4 (by decide +kernel) rfl rfl (by decide) rfl dX4_detailOf_53 ?_
    refine g_iload_n K 0 dX4_detailOf_56 rfl ?_
    refine g_callVr (st' := fun u5 => [.int u5]) K hR [.int u1] [] 12 rfl rfl (c_X1_leastFloor X.2.1 (gxD X) cy sd (A 12) (A 13) (A 14) dC dCc u1 hw) gX4_detailOf_X1_leastFloor rfl yok_X1_leastFloor rfl rfl (by decide) rfl (Nat.le_of_ble_eq_true rfl) dX4_detailOf_57 [12, 13, 14] rfl (by decide) (fun _ => rfl) ⟨rfl, rfl⟩ (fun u5 hw => ?_)
    exact g_zret K E Er u5 hw rfl rfl rfl (Nat.le_refl _) (Nat.le_refl _) dX4_detailOf_60

def wp_X4_handOver (dN : XRow) (dC : XRow) (dCc : Int32) (p0 : Int32) (post : (Int32 × XRow × XRow) → Prop) : Prop := wp_X4_buyerOf dN dC dCc p0 (fun u1 : Int32 => wp_X6_get 12 720 dN p0 6 (fun u2 : Int32 => wp_X1_take dC u1 u2 (fun u3 : XRow => wp_X6_put 12 720 dN p0 10 1 (fun u4 : XRow => wp_X6_put 12 720 u4 p0 11 u1 (fun u5 : XRow => post (u1, u5, u3))))))
theorem in_X4_handOver_X0 : ∀ w ∈ u_ws RX0 TX0 3, w ∈ wsX4_handOver := by decide +kernel
theorem in_X4_handOver_X4 : ∀ w ∈ u_ws RX4 TX4 9, w ∈ wsX4_handOver := by decide +kernel
set_option maxRecDepth 100000 in
set_option maxHeartbeats 4000000 in
theorem c_X4_handOver (l : Launch) (D : va_G) (cy : Nat → ClassId) (sd : xSd) (A : Nat → Nat) (dS : XRow) (dM : XRow) (dP : XRow) (dN : XRow) (dBc : Int32) (dO : XRow) (dC : XRow) (dCc : Int32) (dR : XRow) (dMc : Int32) (dZ : Int32) (dPc : Int32) (p0 : Int32) {post : (Int32 × XRow × XRow) → Prop} (hw : wp_X4_handOver dN dC dCc p0 post) : Ctr l D (xTys cy) sd yX4_handOver wsX4_handOver ({ frames := 4, cells := 0, slots := 0, locals := 94 } : Room) [.ref (A 0), .int p0] (fun u : Int32 × XRow × XRow => some (.int u.1)) [((A 0), .inr (5, [.ref (A 1), .ref (A 3), .ref (A 5), .ref (A 7), .ref (A 12), .ref (A 15), .int dMc, .int dZ, .int dPc])), ((A 1), .inr (7, [.int 5, .ref (A 2)])), ((A 2), .inl (cy 0, 5, .inl dS)), ((A 3), .inr (7, [.int 7, .ref (A 4)])), ((A 4), .inl (cy 0, 42, .inl dM)), ((A 5), .inr (7, [.int 5, .ref (A 6)])), ((A 6), .inl (cy 0, 50, .inl dP)), ((A 7), .inr (2, [.ref (A 8), .ref (A 10), .int dBc])), ((A 8), .inr (7, [.int 12, .ref (A 9)])), ((A 9), .inl (cy 0, 720, .inl dN)), ((A 10), .inr (7, [.int 60, .ref (A 11)])), ((A 11), .inl (cy 0, 60, .inl dO)), ((A 12), .inr (3, [.ref (A 13), .int dCc])), ((A 13), .inr (7, [.int 5, .ref (A 14)])), ((A 14), .inl (cy 0, 40, .inl dC)), ((A 15), .inr (7, [.int 5, .ref (A 16)])), ((A 16), .inl (cy 0, 5, .inl dR))] (fun u => [((A 0), .inr (5, [.ref (A 1), .ref (A 3), .ref (A 5), .ref (A 7), .ref (A 12), .ref (A 15), .int dMc, .int dZ, .int dPc])), ((A 1), .inr (7, [.int 5, .ref (A 2)])), ((A 2), .inl (cy 0, 5, .inl dS)), ((A 3), .inr (7, [.int 7, .ref (A 4)])), ((A 4), .inl (cy 0, 42, .inl dM)), ((A 5), .inr (7, [.int 5, .ref (A 6)])), ((A 6), .inl (cy 0, 50, .inl dP)), ((A 7), .inr (2, [.ref (A 8), .ref (A 10), .int dBc])), ((A 8), .inr (7, [.int 12, .ref (A 9)])), ((A 9), .inl (cy 0, 720, .inl u.2.1)), ((A 10), .inr (7, [.int 60, .ref (A 11)])), ((A 11), .inl (cy 0, 60, .inl dO)), ((A 12), .inr (3, [.ref (A 13), .int dCc])), ((A 13), .inr (7, [.int 5, .ref (A 14)])), ((A 14), .inl (cy 0, 40, .inl u.2.2)), ((A 15), .inr (7, [.int 5, .ref (A 16)])), ((A 16), .inl (cy 0, 5, .inl dR))]) post := by
  refine Ctr.of (cc := cX4_handOver) (maxL := 3) (ret := (some .int)) (lv0 := [(0, .ref (A 0)), (1, .int p0)]) (by decide) rfl (Nat.le_of_ble_eq_true rfl) rfl ?_
  intro X El hR Er Enm ED E En K
  have K : Cx X cX4_handOver RX4 wsX4_handOver (xTys cy) sd := K
  have E : X.2.2.2.2.2.2.2.2.2.2.1 = xMQ X (fun u : Int32 × XRow × XRow => some (.int u.1)) post (fun u => [((A 0), .inr (5, [.ref (A 1), .ref (A 3), .ref (A 5), .ref (A 7), .ref (A 12), .ref (A 15), .int dMc, .int dZ, .int dPc])), ((A 1), .inr (7, [.int 5, .ref (A 2)])), ((A 2), .inl (cy 0, 5, .inl dS)), ((A 3), .inr (7, [.int 7, .ref (A 4)])), ((A 4), .inl (cy 0, 42, .inl dM)), ((A 5), .inr (7, [.int 5, .ref (A 6)])), ((A 6), .inl (cy 0, 50, .inl dP)), ((A 7), .inr (2, [.ref (A 8), .ref (A 10), .int dBc])), ((A 8), .inr (7, [.int 12, .ref (A 9)])), ((A 9), .inl (cy 0, 720, .inl u.2.1)), ((A 10), .inr (7, [.int 60, .ref (A 11)])), ((A 11), .inl (cy 0, 60, .inl dO)), ((A 12), .inr (3, [.ref (A 13), .int dCc])), ((A 13), .inr (7, [.int 5, .ref (A 14)])), ((A 14), .inl (cy 0, 40, .inl u.2.2)), ((A 15), .inr (7, [.int 5, .ref (A 16)])), ((A 16), .inl (cy 0, 5, .inl dR))]) 0 0 := E
  unfold wp_X4_handOver at hw
  refine g_aload_n K 0 dX4_handOver_0 rfl ?_
  refine g_iload_n K 1 dX4_handOver_1 rfl ?_
  refine g_callVr (st' := fun u1 => [.int u1]) K hR [.int p0] [] 0 rfl rfl (c_X4_buyerOf X.2.1 (gxD X) cy sd A dS dM dP dN dBc dO dC dCc dR dMc dZ dPc p0 hw) gX4_handOver_X4_buyerOf rfl yok_X4_buyerOf rfl rfl (by decide) rfl (Nat.le_of_ble_eq_true rfl) dX4_handOver_2 [0, 1, 2, 3, 4, 5, 6, 7, 8, 9, 10, 11, 12, 13, 14, 15, 16] rfl (by decide) (fun _ => rfl) ⟨rfl, rfl⟩ (fun u1 hw => ?_)
  refine g_istore_n (lv' := [(2, .int u1), (0, .ref (A 0)), (1, .int p0)]) K dX4_handOver_5 rfl (by rw [En]; decide) rfl ?_
  refine g_aload_n K 1 dX4_handOver_6 rfl ?_
  refine g_get K (C := RX4) (T := TX4) (N := 9) 0 4 in_X4_handOver_X4 (by decide +kernel) rfl rfl (by decide) rfl dX4_handOver_7 ?_
  refine g_iload_n K 0 dX4_handOver_10 rfl ?_
  refine g_aload_n K 1 dX4_handOver_11 rfl ?_
  refine g_get K (C := RX4) (T := TX4) (N := 9) 0 3 in_X4_handOver_X4 (by decide +kernel) rfl rfl (by decide) rfl dX4_handOver_12 ?_
  refine g_get K (C := RX0) (T := TX0) (N := 3) 7 0 in_X4_handOver_X0 (by decide +kernel) rfl rfl (by decide) rfl dX4_handOver_15 ?_
  refine g_iload_n K 2 dX4_handOver_18 rfl ?_
  refine g_bipush (v := 6) K dX4_handOver_19 rfl ?_
  refine g_callVr (st' := fun u2 => [.int u2, .int u1, .ref (A 12)]) K hR [.int p0, .int 6] [.int u1, .ref (A 12)] 8 rfl rfl (c_X6_get X.2.1 (gxD X) cy sd (A 8) (A 9) 12 720 dN p0 6 hw) gX4_handOver_X6_get rfl yok_X6_get rfl rfl (by decide) rfl (Nat.le_of_ble_eq_true rfl) dX4_handOver_21 [8, 9] rfl (by decide) (fun _ => rfl) ⟨rfl, rfl⟩ (fun u2 hw => ?_)
  refine g_callV (st' := fun u3 => []) (ws' := fun u3 => [((A 0), .inr (5, [.ref (A 1), .ref (A 3), .ref (A 5), .ref (A 7), .ref (A 12), .ref (A 15), .int dMc, .int dZ, .int dPc])), ((A 1), .inr (7, [.int 5, .ref (A 2)])), ((A 2), .inl (cy 0, 5, .inl dS)), ((A 3), .inr (7, [.int 7, .ref (A 4)])), ((A 4), .inl (cy 0, 42, .inl dM)), ((A 5), .inr (7, [.int 5, .ref (A 6)])), ((A 6), .inl (cy 0, 50, .inl dP)), ((A 7), .inr (2, [.ref (A 8), .ref (A 10), .int dBc])), ((A 8), .inr (7, [.int 12, .ref (A 9)])), ((A 9), .inl (cy 0, 720, .inl dN)), ((A 10), .inr (7, [.int 60, .ref (A 11)])), ((A 11), .inl (cy 0, 60, .inl dO)), ((A 12), .inr (3, [.ref (A 13), .int dCc])), ((A 13), .inr (7, [.int 5, .ref (A 14)])), ((A 14), .inl (cy 0, 40, .inl u3)), ((A 15), .inr (7, [.int 5, .ref (A 16)])), ((A 16), .inl (cy 0, 5, .inl dR))]) K hR [.int u1, .int u2] [] 12 rfl rfl (c_X1_take X.2.1 (gxD X) cy sd (A 12) (A 13) (A 14) dC dCc u1 u2 hw) gX4_handOver_X1_take rfl yok_X1_take rfl rfl (by decide) rfl (Nat.le_of_ble_eq_true rfl) dX4_handOver_24 [12, 13, 14] rfl (by decide) (fun _ => rfl) (fun _ => rfl) (fun _ => rfl) ⟨rfl, rfl⟩ (fun u3 hw => ?_)
  refine g_aload_n K 1 dX4_handOver_27 rfl ?_
  refine g_get K (C := RX4) (T := TX4) (N := 9) 0 3 in_X4_handOver_X4 (by decide +kernel) rfl rfl (by decide) rfl dX4_handOver_28 ?_
  refine g_get K (C := RX0) (T := TX0) (N := 3) 7 0 in_X4_handOver_X0 (by decide +kernel) rfl rfl (by decide) rfl dX4_handOver_31 ?_
  refine g_iload_n K 2 dX4_handOver_34 rfl ?_
  refine g_bipush (v := 10) K dX4_handOver_35 rfl ?_
  refine g_iconst (v := 1) K dX4_handOver_37 rfl ?_
  refine g_callV (st' := fun u4 => []) (ws' := fun u4 => [((A 0), .inr (5, [.ref (A 1), .ref (A 3), .ref (A 5), .ref (A 7), .ref (A 12), .ref (A 15), .int dMc, .int dZ, .int dPc])), ((A 1), .inr (7, [.int 5, .ref (A 2)])), ((A 2), .inl (cy 0, 5, .inl dS)), ((A 3), .inr (7, [.int 7, .ref (A 4)])), ((A 4), .inl (cy 0, 42, .inl dM)), ((A 5), .inr (7, [.int 5, .ref (A 6)])), ((A 6), .inl (cy 0, 50, .inl dP)), ((A 7), .inr (2, [.ref (A 8), .ref (A 10), .int dBc])), ((A 8), .inr (7, [.int 12, .ref (A 9)])), ((A 9), .inl (cy 0, 720, .inl u4)), ((A 10), .inr (7, [.int 60, .ref (A 11)])), ((A 11), .inl (cy 0, 60, .inl dO)), ((A 12), .inr (3, [.ref (A 13), .int dCc])), ((A 13), .inr (7, [.int 5, .ref (A 14)])), ((A 14), .inl (cy 0, 40, .inl u3)), ((A 15), .inr (7, [.int 5, .ref (A 16)])), ((A 16), .inl (cy 0, 5, .inl dR))]) K hR [.int p0, .int 10, .int 1] [] 8 rfl rfl (c_X6_put X.2.1 (gxD X) cy sd (A 8) (A 9) 12 720 dN p0 10 1 hw) gX4_handOver_X6_put rfl yok_X6_put rfl rfl (by decide) rfl (Nat.le_of_ble_eq_true rfl) dX4_handOver_38 [8, 9] rfl (by decide) (fun _ => rfl) (fun _ => rfl) (fun _ => rfl) ⟨rfl, rfl⟩ (fun u4 hw => ?_)
  refine g_aload_n K 1 dX4_handOver_41 rfl ?_
  refine g_get K (C := RX4) (T := TX4) (N := 9) 0 3 in_X4_handOver_X4 (by decide +kernel) rfl rfl (by decide) rfl dX4_handOver_42 ?_
  refine g_get K (C := RX0) (T := TX0) (N := 3) 7 0 in_X4_handOver_X0 (by decide +kernel) rfl rfl (by decide) rfl dX4_handOver_45 ?_
  refine g_iload_n K 2 dX4_handOver_48 rfl ?_
  refine g_bipush (v := 11) K dX4_handOver_49 rfl ?_
  refine g_iload_n K 0 dX4_handOver_51 rfl ?_
  refine g_callV (st' := fun u5 => []) (ws' := fun u5 => [((A 0), .inr (5, [.ref (A 1), .ref (A 3), .ref (A 5), .ref (A 7), .ref (A 12), .ref (A 15), .int dMc, .int dZ, .int dPc])), ((A 1), .inr (7, [.int 5, .ref (A 2)])), ((A 2), .inl (cy 0, 5, .inl dS)), ((A 3), .inr (7, [.int 7, .ref (A 4)])), ((A 4), .inl (cy 0, 42, .inl dM)), ((A 5), .inr (7, [.int 5, .ref (A 6)])), ((A 6), .inl (cy 0, 50, .inl dP)), ((A 7), .inr (2, [.ref (A 8), .ref (A 10), .int dBc])), ((A 8), .inr (7, [.int 12, .ref (A 9)])), ((A 9), .inl (cy 0, 720, .inl u5)), ((A 10), .inr (7, [.int 60, .ref (A 11)])), ((A 11), .inl (cy 0, 60, .inl dO)), ((A 12), .inr (3, [.ref (A 13), .int dCc])), ((A 13), .inr (7, [.int 5, .ref (A 14)])), ((A 14), .inl (cy 0, 40, .inl u3)), ((A 15), .inr (7, [.int 5, .ref (A 16)])), ((A 16), .inl (cy 0, 5, .inl dR))]) K hR [.int p0, .int 11, .int u1] [] 8 rfl rfl (c_X6_put X.2.1 (gxD X) cy sd (A 8) (A 9) 12 720 u4 p0 11 u1 hw) gX4_handOver_X6_put rfl yok_X6_put rfl rfl (by decide) rfl (Nat.le_of_ble_eq_true rfl) dX4_handOver_52 [8, 9] rfl (by decide) (fun _ => rfl) (fun _ => rfl) (fun _ => rfl) ⟨rfl, rfl⟩ (fun u5 hw => ?_)
  refine g_iload_n K 0 dX4_handOver_55 rfl ?_
  exact g_zret K E Er (u1, u5, u3) hw rfl rfl rfl (Nat.le_refl _) (Nat.le_refl _) dX4_handOver_56

def wp_X4_handOverAll_L12 (dCc : Int32) (u1 : Int32 × XRow) (k12_53 : Int32 → Int32 → XRow → XRow → Prop) : Nat → Int32 → Int32 → XRow → XRow → Prop
  | 0, _, _, _, _ => False
  | fu + 1, v2, v3, v4, v5 => (u1.1 ≤ v2 → (k12_53 v2 v3 v4 v5)) ∧ (¬ u1.1 ≤ v2 → (wp_X0_atPlace u1.2 v2 (fun u6 : Int32 => wp_X4_buyerOf v4 v5 dCc u6 (fun u7 : Int32 => (u7 = (-1) → (∀ x8 : Int32, x8 = v2 + 1 → (wp_X4_handOverAll_L12 dCc u1 k12_53 fu x8 v3 v4 v5))) ∧ (¬ u7 = (-1) → (wp_X4_handOver v4 v5 dCc u6 (fun u9 : Int32 × XRow × XRow => ∀ x10 : Int32, x10 = v3 + 1 → (∀ x11 : Int32, x11 = v2 + 1 → (wp_X4_handOverAll_L12 dCc u1 k12_53 fu x11 x10 u9.2.1 u9.2.2)))))))))
def wp_X4_handOverAll (dN : XRow) (dBc : Int32) (dO : XRow) (dC : XRow) (dCc : Int32) (post : (Int32 × XRow × XRow × XRow) → Prop) : Prop := wp_X0_putInOrder dN dBc dO (fun u1 : Int32 × XRow => ∃ fl, wp_X4_handOverAll_L12 dCc u1 (fun (v12 : Int32) (v13 : Int32) (v14 : XRow) (v15 : XRow) => post (v13, v14, u1.2, v15)) fl 0 0 dN dC)
theorem in_X4_handOverAll_X4 : ∀ w ∈ u_ws RX4 TX4 9, w ∈ wsX4_handOverAll := by decide +kernel
set_option maxRecDepth 100000 in
set_option maxHeartbeats 4000000 in
theorem c_X4_handOverAll (l : Launch) (D : va_G) (cy : Nat → ClassId) (sd : xSd) (A : Nat → Nat) (dS : XRow) (dM : XRow) (dP : XRow) (dN : XRow) (dBc : Int32) (dO : XRow) (dC : XRow) (dCc : Int32) (dR : XRow) (dMc : Int32) (dZ : Int32) (dPc : Int32) {post : (Int32 × XRow × XRow × XRow) → Prop} (hw : wp_X4_handOverAll dN dBc dO dC dCc post) : Ctr l D (xTys cy) sd yX4_handOverAll wsX4_handOverAll ({ frames := 5, cells := 0, slots := 0, locals := 116 } : Room) [.ref (A 0)] (fun u : Int32 × XRow × XRow × XRow => some (.int u.1)) [((A 0), .inr (5, [.ref (A 1), .ref (A 3), .ref (A 5), .ref (A 7), .ref (A 12), .ref (A 15), .int dMc, .int dZ, .int dPc])), ((A 1), .inr (7, [.int 5, .ref (A 2)])), ((A 2), .inl (cy 0, 5, .inl dS)), ((A 3), .inr (7, [.int 7, .ref (A 4)])), ((A 4), .inl (cy 0, 42, .inl dM)), ((A 5), .inr (7, [.int 5, .ref (A 6)])), ((A 6), .inl (cy 0, 50, .inl dP)), ((A 7), .inr (2, [.ref (A 8), .ref (A 10), .int dBc])), ((A 8), .inr (7, [.int 12, .ref (A 9)])), ((A 9), .inl (cy 0, 720, .inl dN)), ((A 10), .inr (7, [.int 60, .ref (A 11)])), ((A 11), .inl (cy 0, 60, .inl dO)), ((A 12), .inr (3, [.ref (A 13), .int dCc])), ((A 13), .inr (7, [.int 5, .ref (A 14)])), ((A 14), .inl (cy 0, 40, .inl dC)), ((A 15), .inr (7, [.int 5, .ref (A 16)])), ((A 16), .inl (cy 0, 5, .inl dR))] (fun u => [((A 0), .inr (5, [.ref (A 1), .ref (A 3), .ref (A 5), .ref (A 7), .ref (A 12), .ref (A 15), .int dMc, .int dZ, .int dPc])), ((A 1), .inr (7, [.int 5, .ref (A 2)])), ((A 2), .inl (cy 0, 5, .inl dS)), ((A 3), .inr (7, [.int 7, .ref (A 4)])), ((A 4), .inl (cy 0, 42, .inl dM)), ((A 5), .inr (7, [.int 5, .ref (A 6)])), ((A 6), .inl (cy 0, 50, .inl dP)), ((A 7), .inr (2, [.ref (A 8), .ref (A 10), .int dBc])), ((A 8), .inr (7, [.int 12, .ref (A 9)])), ((A 9), .inl (cy 0, 720, .inl u.2.1)), ((A 10), .inr (7, [.int 60, .ref (A 11)])), ((A 11), .inl (cy 0, 60, .inl u.2.2.1)), ((A 12), .inr (3, [.ref (A 13), .int dCc])), ((A 13), .inr (7, [.int 5, .ref (A 14)])), ((A 14), .inl (cy 0, 40, .inl u.2.2.2)), ((A 15), .inr (7, [.int 5, .ref (A 16)])), ((A 16), .inl (cy 0, 5, .inl dR))]) post := by
  refine Ctr.of (cc := cX4_handOverAll) (maxL := 5) (ret := (some .int)) (lv0 := [(0, .ref (A 0))]) (by decide) rfl (Nat.le_of_ble_eq_true rfl) rfl ?_
  intro X El hR Er Enm ED E En K
  have K : Cx X cX4_handOverAll RX4 wsX4_handOverAll (xTys cy) sd := K
  have E : X.2.2.2.2.2.2.2.2.2.2.1 = xMQ X (fun u : Int32 × XRow × XRow × XRow => some (.int u.1)) post (fun u => [((A 0), .inr (5, [.ref (A 1), .ref (A 3), .ref (A 5), .ref (A 7), .ref (A 12), .ref (A 15), .int dMc, .int dZ, .int dPc])), ((A 1), .inr (7, [.int 5, .ref (A 2)])), ((A 2), .inl (cy 0, 5, .inl dS)), ((A 3), .inr (7, [.int 7, .ref (A 4)])), ((A 4), .inl (cy 0, 42, .inl dM)), ((A 5), .inr (7, [.int 5, .ref (A 6)])), ((A 6), .inl (cy 0, 50, .inl dP)), ((A 7), .inr (2, [.ref (A 8), .ref (A 10), .int dBc])), ((A 8), .inr (7, [.int 12, .ref (A 9)])), ((A 9), .inl (cy 0, 720, .inl u.2.1)), ((A 10), .inr (7, [.int 60, .ref (A 11)])), ((A 11), .inl (cy 0, 60, .inl u.2.2.1)), ((A 12), .inr (3, [.ref (A 13), .int dCc])), ((A 13), .inr (7, [.int 5, .ref (A 14)])), ((A 14), .inl (cy 0, 40, .inl u.2.2.2)), ((A 15), .inr (7, [.int 5, .ref (A 16)])), ((A 16), .inl (cy 0, 5, .inl dR))]) 0 0 := E
  unfold wp_X4_handOverAll at hw
  refine g_aload_n K 0 dX4_handOverAll_0 rfl ?_
  refine g_get K (C := RX4) (T := TX4) (N := 9) 0 3 in_X4_handOverAll_X4 (by decide +kernel) rfl rfl (by decide) rfl dX4_handOverAll_1 ?_
  refine g_callV (st' := fun u1 => [.int u1.1]) (ws' := fun u1 => [((A 0), .inr (5, [.ref (A 1), .ref (A 3), .ref (A 5), .ref (A 7), .ref (A 12), .ref (A 15), .int dMc, .int dZ, .int dPc])), ((A 1), .inr (7, [.int 5, .ref (A 2)])), ((A 2), .inl (cy 0, 5, .inl dS)), ((A 3), .inr (7, [.int 7, .ref (A 4)])), ((A 4), .inl (cy 0, 42, .inl dM)), ((A 5), .inr (7, [.int 5, .ref (A 6)])), ((A 6), .inl (cy 0, 50, .inl dP)), ((A 7), .inr (2, [.ref (A 8), .ref (A 10), .int dBc])), ((A 8), .inr (7, [.int 12, .ref (A 9)])), ((A 9), .inl (cy 0, 720, .inl dN)), ((A 10), .inr (7, [.int 60, .ref (A 11)])), ((A 11), .inl (cy 0, 60, .inl u1.2)), ((A 12), .inr (3, [.ref (A 13), .int dCc])), ((A 13), .inr (7, [.int 5, .ref (A 14)])), ((A 14), .inl (cy 0, 40, .inl dC)), ((A 15), .inr (7, [.int 5, .ref (A 16)])), ((A 16), .inl (cy 0, 5, .inl dR))]) K hR [] [] 7 rfl rfl (c_X0_putInOrder X.2.1 (gxD X) cy sd (A 7) (A 8) (A 9) (A 10) (A 11) dN dBc dO hw) gX4_handOverAll_X0_putInOrder rfl yok_X0_putInOrder rfl rfl (by decide) rfl (Nat.le_of_ble_eq_true rfl) dX4_handOverAll_4 [7, 8, 9, 10, 11] rfl (by decide) (fun _ => rfl) (fun _ => rfl) (fun _ => rfl) ⟨rfl, rfl⟩ (fun u1 hw => ?_)
  refine g_istore_n (lv' := [(1, .int u1.1), (0, .ref (A 0))]) K dX4_handOverAll_7 rfl (by rw [En]; decide) rfl ?_
  refine g_iconst (v := 0) K dX4_handOverAll_8 rfl ?_
  refine g_istore_n (lv' := [(2, .int 0), (1, .int u1.1), (0, .ref (A 0))]) K dX4_handOverAll_9 rfl (by rw [En]; decide) rfl ?_
  refine g_iconst (v := 0) K dX4_handOverAll_10 rfl ?_
  refine g_istore_n (lv' := [(3, .int 0), (2, .int 0), (1, .int u1.1), (0, .ref (A 0))]) K dX4_handOverAll_11 rfl (by rw [En]; decide) rfl ?_
  obtain ⟨fl, hw⟩ := hw
  have key : ∀ (k12_53 : Int32 → Int32 → XRow → XRow → Prop), (∀ (v2 : Int32) (v3 : Int32) (v4 : XRow) (v5 : XRow), k12_53 v2 v3 v4 v5 → Gx X 0 0 [((A 0), .inr (5, [.ref (A 1), .ref (A 3), .ref (A 5), .ref (A 7), .ref (A 12), .ref (A 15), .int dMc, .int dZ, .int dPc])), ((A 1), .inr (7, [.int 5, .ref (A 2)])), ((A 2), .inl (cy 0, 5, .inl dS)), ((A 3), .inr (7, [.int 7, .ref (A 4)])), ((A 4), .inl (cy 0, 42, .inl dM)), ((A 5), .inr (7, [.int 5, .ref (A 6)])), ((A 6), .inl (cy 0, 50, .inl dP)), ((A 7), .inr (2, [.ref (A 8), .ref (A 10), .int dBc])), ((A 8), .inr (7, [.int 12, .ref (A 9)])), ((A 9), .inl (cy 0, 720, .inl v4)), ((A 10), .inr (7, [.int 60, .ref (A 11)])), ((A 11), .inl (cy 0, 60, .inl u1.2)), ((A 12), .inr (3, [.ref (A 13), .int dCc])), ((A 13), .inr (7, [.int 5, .ref (A 14)])), ((A 14), .inl (cy 0, 40, .inl v5)), ((A 15), .inr (7, [.int 5, .ref (A 16)])), ((A 16), .inl (cy 0, 5, .inl dR))] [(3, .int v2), (2, .int v3), (1, .int u1.1), (0, .ref (A 0))] 53 []) → ∀ (n : Nat) (v2 : Int32) (v3 : Int32) (v4 : XRow) (v5 : XRow), wp_X4_handOverAll_L12 dCc u1 k12_53 n v2 v3 v4 v5 → Gx X 0 0 [((A 0), .inr (5, [.ref (A 1), .ref (A 3), .ref (A 5), .ref (A 7), .ref (A 12), .ref (A 15), .int dMc, .int dZ, .int dPc])), ((A 1), .inr (7, [.int 5, .ref (A 2)])), ((A 2), .inl (cy 0, 5, .inl dS)), ((A 3), .inr (7, [.int 7, .ref (A 4)])), ((A 4), .inl (cy 0, 42, .inl dM)), ((A 5), .inr (7, [.int 5, .ref (A 6)])), ((A 6), .inl (cy 0, 50, .inl dP)), ((A 7), .inr (2, [.ref (A 8), .ref (A 10), .int dBc])), ((A 8), .inr (7, [.int 12, .ref (A 9)])), ((A 9), .inl (cy 0, 720, .inl v4)), ((A 10), .inr (7, [.int 60, .ref (A 11)])), ((A 11), .inl (cy 0, 60, .inl u1.2)), ((A 12), .inr (3, [.ref (A 13), .int dCc])), ((A 13), .inr (7, [.int 5, .ref (A 14)])), ((A 14), .inl (cy 0, 40, .inl v5)), ((A 15), .inr (7, [.int 5, .ref (A 16)])), ((A 16), .inl (cy 0, 5, .inl dR))] [(3, .int v2), (2, .int v3), (1, .int u1.1), (0, .ref (A 0))] 12 [] := by
    intro k12_53 hx53 n
    induction n with
    | zero => intro v2 v3 v4 v5 hw; exact hw.elim
    | succ n ih =>
      intro v2 v3 v4 v5 hw
      refine g_iload_n K 0 dX4_handOverAll_12 rfl ?_
      refine g_iload_n K 2 dX4_handOverAll_13 rfl ?_
      refine g_icmp_ge (tgt := 53) K dX4_handOverAll_14 (by decide) (fun hc => ?_) (fun hc => ?_)
      · replace hw := hw.1 hc
        exact hx53 _ _ _ _ hw
      · replace hw := hw.2 hc
        refine g_aload_n K 3 dX4_handOverAll_17 rfl ?_
        refine g_get K (C := RX4) (T := TX4) (N := 9) 0 3 in_X4_handOverAll_X4 (by decide +kernel) rfl rfl (by decide) rfl dX4_handOverAll_18 ?_
        refine g_iload_n K 0 dX4_handOverAll_21 rfl ?_
        refine g_callVr (st' := fun u6 => [.int u6]) K hR [.int v2] [] 7 rfl rfl (c_X0_atPlace X.2.1 (gxD X) cy sd (A 7) (A 8) (A 9) (A 10) (A 11) v4 dBc u1.2 v2 hw) gX4_handOverAll_X0_atPlace rfl yok_X0_atPlace rfl rfl (by decide) rfl (Nat.le_of_ble_eq_true rfl) dX4_handOverAll_22 [7, 8, 9, 10, 11] rfl (by decide) (fun _ => rfl) ⟨rfl, rfl⟩ (fun u6 hw => ?_)
        refine g_istore (lv' := [(4, .int u6), (3, .int v2), (2, .int v3), (1, .int u1.1), (0, .ref (A 0))]) K dX4_handOverAll_25 (by rw [En]; decide) rfl ?_
        refine g_aload_n K 4 dX4_handOverAll_27 rfl ?_
        refine g_iload K 0 dX4_handOverAll_28 rfl ?_
        refine g_callVr (st' := fun u7 => [.int u7]) K hR [.int u6] [] 0 rfl rfl (c_X4_buyerOf X.2.1 (gxD X) cy sd A dS dM dP v4 dBc u1.2 v5 dCc dR dMc dZ dPc u6 hw) gX4_handOverAll_X4_buyerOf rfl yok_X4_buyerOf rfl rfl (by decide) rfl (Nat.le_of_ble_eq_true rfl) dX4_handOverAll_30 [0, 1, 2, 3, 4, 5, 6, 7, 8, 9, 10, 11, 12, 13, 14, 15, 16] rfl (by decide) (fun _ => rfl) ⟨rfl, rfl⟩ (fun u7 hw => ?_)
        refine g_iconst (v := (-1)) K dX4_handOverAll_33 rfl ?_
        refine g_icmp_eq (tgt := 47) K dX4_handOverAll_34 (by decide) (fun hc => ?_) (fun hc => ?_)
        · replace hw := hw.1 hc
          obtain ⟨x8, ex8⟩ : ∃ z : Int32, z = v2 + 1 := ⟨_, rfl⟩
          replace hw := hw x8 ex8
          refine g_iinc (v := x8) (lv' := [(3, .int x8), (4, .int u6), (2, .int v3), (1, .int u1.1), (0, .ref (A 0))]) K 1 dX4_handOverAll_47 rfl (by rw [ex8]; rfl) (by rw [En]; decide) rfl ?_
          refine g_goto (tgt := 12) K dX4_handOverAll_50 (by decide) ?_
          refine gx_locals [0, 2, 3, 4] rfl ?_
          exact ih _ _ _ _ hw
        · replace hw := hw.2 hc
          refine g_aload_n K 4 dX4_handOverAll_37 rfl ?_
          refine g_iload K 0 dX4_handOverAll_38 rfl ?_
          refine g_callV (st' := fun u9 => [.int u9.1]) (ws' := fun u9 => [((A 0), .inr (5, [.ref (A 1), .ref (A 3), .ref (A 5), .ref (A 7), .ref (A 12), .ref (A 15), .int dMc, .int dZ, .int dPc])), ((A 1), .inr (7, [.int 5, .ref (A 2)])), ((A 2), .inl (cy 0, 5, .inl dS)), ((A 3), .inr (7, [.int 7, .ref (A 4)])), ((A 4), .inl (cy 0, 42, .inl dM)), ((A 5), .inr (7, [.int 5, .ref (A 6)])), ((A 6), .inl (cy 0, 50, .inl dP)), ((A 7), .inr (2, [.ref (A 8), .ref (A 10), .int dBc])), ((A 8), .inr (7, [.int 12, .ref (A 9)])), ((A 9), .inl (cy 0, 720, .inl u9.2.1)), ((A 10), .inr (7, [.int 60, .ref (A 11)])), ((A 11), .inl (cy 0, 60, .inl u1.2)), ((A 12), .inr (3, [.ref (A 13), .int dCc])), ((A 13), .inr (7, [.int 5, .ref (A 14)])), ((A 14), .inl (cy 0, 40, .inl u9.2.2)), ((A 15), .inr (7, [.int 5, .ref (A 16)])), ((A 16), .inl (cy 0, 5, .inl dR))]) K hR [.int u6] [] 0 rfl rfl (c_X4_handOver X.2.1 (gxD X) cy sd A dS dM dP v4 dBc u1.2 v5 dCc dR dMc dZ dPc u6 hw) gX4_handOverAll_X4_handOver rfl yok_X4_handOver rfl rfl (by decide) rfl (Nat.le_of_ble_eq_true rfl) dX4_handOverAll_40 [0, 1, 2, 3, 4, 5, 6, 7, 8, 9, 10, 11, 12, 13, 14, 15, 16] rfl (by decide) (fun _ => rfl) (fun _ => rfl) (fun _ => rfl) ⟨rfl, rfl⟩ (fun u9 hw => ?_)
          refine g_pop K dX4_handOverAll_43 rfl ?_
          obtain ⟨x10, ex10⟩ : ∃ z : Int32, z = v3 + 1 := ⟨_, rfl⟩
          replace hw := hw x10 ex10
          refine g_iinc (v := x10) (lv' := [(2, .int x10), (4, .int u6), (3, .int v2), (1, .int u1.1), (0, .ref (A 0))]) K 2 dX4_handOverAll_44 rfl (by rw [ex10]; rfl) (by rw [En]; decide) rfl ?_
          obtain ⟨x11, ex11⟩ : ∃ z : Int32, z = v2 + 1 := ⟨_, rfl⟩
          replace hw := hw x11 ex11
          refine g_iinc (v := x11) (lv' := [(3, .int x11), (2, .int x10), (4, .int u6), (1, .int u1.1), (0, .ref (A 0))]) K 2 dX4_handOverAll_47 rfl (by rw [ex11]; rfl) (by rw [En]; decide) rfl ?_
          refine g_goto (tgt := 12) K dX4_handOverAll_50 (by decide) ?_
          refine gx_locals [0, 1, 3, 4] rfl ?_
          exact ih _ _ _ _ hw
  refine key _ (fun v12 v13 v14 v15 hw => ?_) fl _ _ _ _ hw
  refine g_iload_n K 1 dX4_handOverAll_53 rfl ?_
  exact g_zret K E Er (v13, v14, u1.2, v15) hw rfl rfl rfl (Nat.le_refl _) (Nat.le_refl _) dX4_handOverAll_54

def wp_X4_kilosInBunkers_L4 (dP : XRow) (dMc : Int32) (k4_29 : Int32 → Int32 → Prop) : Nat → Int32 → Int32 → Prop
  | 0, _, _ => False
  | fu + 1, v1, v2 => (dMc ≤ v1 → (k4_29 v1 v2)) ∧ (¬ dMc ≤ v1 → (wp_X6_sum 5 50 dP v1 (fun u3 : Int32 => ∀ x4 : Int32, x4 = v2 + u3 → (∀ x5 : Int32, x5 = v1 + 1 → (wp_X4_kilosInBunkers_L4 dP dMc k4_29 fu x5 x4)))))
def wp_X4_kilosInBunkers (dP : XRow) (dMc : Int32) (post : Int32 → Prop) : Prop := ∃ fl, wp_X4_kilosInBunkers_L4 dP dMc (fun (v6 : Int32) (v7 : Int32) => post v7) fl 0 0
theorem in_X4_kilosInBunkers_X4 : ∀ w ∈ u_ws RX4 TX4 9, w ∈ wsX4_kilosInBunkers := by decide +kernel
set_option maxRecDepth 100000 in
set_option maxHeartbeats 4000000 in
theorem c_X4_kilosInBunkers (l : Launch) (D : va_G) (cy : Nat → ClassId) (sd : xSd) (A : Nat → Nat) (dS : XRow) (dM : XRow) (dP : XRow) (dN : XRow) (dBc : Int32) (dO : XRow) (dC : XRow) (dCc : Int32) (dR : XRow) (dMc : Int32) (dZ : Int32) (dPc : Int32) {post : Int32 → Prop} (hw : wp_X4_kilosInBunkers dP dMc post) : Ctr l D (xTys cy) sd yX4_kilosInBunkers wsX4_kilosInBunkers ({ frames := 2, cells := 0, slots := 0, locals := 46 } : Room) [.ref (A 0)] (fun u : Int32 => some (.int u)) [((A 0), .inr (5, [.ref (A 1), .ref (A 3), .ref (A 5), .ref (A 7), .ref (A 12), .ref (A 15), .int dMc, .int dZ, .int dPc])), ((A 1), .inr (7, [.int 5, .ref (A 2)])), ((A 2), .inl (cy 0, 5, .inl dS)), ((A 3), .inr (7, [.int 7, .ref (A 4)])), ((A 4), .inl (cy 0, 42, .inl dM)), ((A 5), .inr (7, [.int 5, .ref (A 6)])), ((A 6), .inl (cy 0, 50, .inl dP)), ((A 7), .inr (2, [.ref (A 8), .ref (A 10), .int dBc])), ((A 8), .inr (7, [.int 12, .ref (A 9)])), ((A 9), .inl (cy 0, 720, .inl dN)), ((A 10), .inr (7, [.int 60, .ref (A 11)])), ((A 11), .inl (cy 0, 60, .inl dO)), ((A 12), .inr (3, [.ref (A 13), .int dCc])), ((A 13), .inr (7, [.int 5, .ref (A 14)])), ((A 14), .inl (cy 0, 40, .inl dC)), ((A 15), .inr (7, [.int 5, .ref (A 16)])), ((A 16), .inl (cy 0, 5, .inl dR))] (fun _ => [((A 0), .inr (5, [.ref (A 1), .ref (A 3), .ref (A 5), .ref (A 7), .ref (A 12), .ref (A 15), .int dMc, .int dZ, .int dPc])), ((A 1), .inr (7, [.int 5, .ref (A 2)])), ((A 2), .inl (cy 0, 5, .inl dS)), ((A 3), .inr (7, [.int 7, .ref (A 4)])), ((A 4), .inl (cy 0, 42, .inl dM)), ((A 5), .inr (7, [.int 5, .ref (A 6)])), ((A 6), .inl (cy 0, 50, .inl dP)), ((A 7), .inr (2, [.ref (A 8), .ref (A 10), .int dBc])), ((A 8), .inr (7, [.int 12, .ref (A 9)])), ((A 9), .inl (cy 0, 720, .inl dN)), ((A 10), .inr (7, [.int 60, .ref (A 11)])), ((A 11), .inl (cy 0, 60, .inl dO)), ((A 12), .inr (3, [.ref (A 13), .int dCc])), ((A 13), .inr (7, [.int 5, .ref (A 14)])), ((A 14), .inl (cy 0, 40, .inl dC)), ((A 15), .inr (7, [.int 5, .ref (A 16)])), ((A 16), .inl (cy 0, 5, .inl dR))]) post := by
  refine Ctr.of (cc := cX4_kilosInBunkers) (maxL := 3) (ret := (some .int)) (lv0 := [(0, .ref (A 0))]) (by decide) rfl (Nat.le_of_ble_eq_true rfl) rfl ?_
  intro X El hR Er Enm ED E En K
  have K : Cx X cX4_kilosInBunkers RX4 wsX4_kilosInBunkers (xTys cy) sd := K
  have E : X.2.2.2.2.2.2.2.2.2.2.1 = xMQ X (fun u : Int32 => some (.int u)) post (fun _ => [((A 0), .inr (5, [.ref (A 1), .ref (A 3), .ref (A 5), .ref (A 7), .ref (A 12), .ref (A 15), .int dMc, .int dZ, .int dPc])), ((A 1), .inr (7, [.int 5, .ref (A 2)])), ((A 2), .inl (cy 0, 5, .inl dS)), ((A 3), .inr (7, [.int 7, .ref (A 4)])), ((A 4), .inl (cy 0, 42, .inl dM)), ((A 5), .inr (7, [.int 5, .ref (A 6)])), ((A 6), .inl (cy 0, 50, .inl dP)), ((A 7), .inr (2, [.ref (A 8), .ref (A 10), .int dBc])), ((A 8), .inr (7, [.int 12, .ref (A 9)])), ((A 9), .inl (cy 0, 720, .inl dN)), ((A 10), .inr (7, [.int 60, .ref (A 11)])), ((A 11), .inl (cy 0, 60, .inl dO)), ((A 12), .inr (3, [.ref (A 13), .int dCc])), ((A 13), .inr (7, [.int 5, .ref (A 14)])), ((A 14), .inl (cy 0, 40, .inl dC)), ((A 15), .inr (7, [.int 5, .ref (A 16)])), ((A 16), .inl (cy 0, 5, .inl dR))]) 0 0 := E
  unfold wp_X4_kilosInBunkers at hw
  refine g_iconst (v := 0) K dX4_kilosInBunkers_0 rfl ?_
  refine g_istore_n (lv' := [(1, .int 0), (0, .ref (A 0))]) K dX4_kilosInBunkers_1 rfl (by rw [En]; decide) rfl ?_
  refine g_iconst (v := 0) K dX4_kilosInBunkers_2 rfl ?_
  refine g_istore_n (lv' := [(2, .int 0), (1, .int 0), (0, .ref (A 0))]) K dX4_kilosInBunkers_3 rfl (by rw [En]; decide) rfl ?_
  obtain ⟨fl, hw⟩ := hw
  have key : ∀ (k4_29 : Int32 → Int32 → Prop), (∀ (v1 : Int32) (v2 : Int32), k4_29 v1 v2 → Gx X 0 0 [((A 0), .inr (5, [.ref (A 1), .ref (A 3), .ref (A 5), .ref (A 7), .ref (A 12), .ref (A 15), .int dMc, .int dZ, .int dPc])), ((A 1), .inr (7, [.int 5, .ref (A 2)])), ((A 2), .inl (cy 0, 5, .inl dS)), ((A 3), .inr (7, [.int 7, .ref (A 4)])), ((A 4), .inl (cy 0, 42, .inl dM)), ((A 5), .inr (7, [.int 5, .ref (A 6)])), ((A 6), .inl (cy 0, 50, .inl dP)), ((A 7), .inr (2, [.ref (A 8), .ref (A 10), .int dBc])), ((A 8), .inr (7, [.int 12, .ref (A 9)])), ((A 9), .inl (cy 0, 720, .inl dN)), ((A 10), .inr (7, [.int 60, .ref (A 11)])), ((A 11), .inl (cy 0, 60, .inl dO)), ((A 12), .inr (3, [.ref (A 13), .int dCc])), ((A 13), .inr (7, [.int 5, .ref (A 14)])), ((A 14), .inl (cy 0, 40, .inl dC)), ((A 15), .inr (7, [.int 5, .ref (A 16)])), ((A 16), .inl (cy 0, 5, .inl dR))] [(2, .int v1), (1, .int v2), (0, .ref (A 0))] 29 []) → ∀ (n : Nat) (v1 : Int32) (v2 : Int32), wp_X4_kilosInBunkers_L4 dP dMc k4_29 n v1 v2 → Gx X 0 0 [((A 0), .inr (5, [.ref (A 1), .ref (A 3), .ref (A 5), .ref (A 7), .ref (A 12), .ref (A 15), .int dMc, .int dZ, .int dPc])), ((A 1), .inr (7, [.int 5, .ref (A 2)])), ((A 2), .inl (cy 0, 5, .inl dS)), ((A 3), .inr (7, [.int 7, .ref (A 4)])), ((A 4), .inl (cy 0, 42, .inl dM)), ((A 5), .inr (7, [.int 5, .ref (A 6)])), ((A 6), .inl (cy 0, 50, .inl dP)), ((A 7), .inr (2, [.ref (A 8), .ref (A 10), .int dBc])), ((A 8), .inr (7, [.int 12, .ref (A 9)])), ((A 9), .inl (cy 0, 720, .inl dN)), ((A 10), .inr (7, [.int 60, .ref (A 11)])), ((A 11), .inl (cy 0, 60, .inl dO)), ((A 12), .inr (3, [.ref (A 13), .int dCc])), ((A 13), .inr (7, [.int 5, .ref (A 14)])), ((A 14), .inl (cy 0, 40, .inl dC)), ((A 15), .inr (7, [.int 5, .ref (A 16)])), ((A 16), .inl (cy 0, 5, .inl dR))] [(2, .int v1), (1, .int v2), (0, .ref (A 0))] 4 [] := by
    intro k4_29 hx29 n
    induction n with
    | zero => intro v1 v2 hw; exact hw.elim
    | succ n ih =>
      intro v1 v2 hw
      refine g_iload_n K 0 dX4_kilosInBunkers_4 rfl ?_
      refine g_aload_n K 2 dX4_kilosInBunkers_5 rfl ?_
      refine g_get K (C := RX4) (T := TX4) (N := 9) 0 6 in_X4_kilosInBunkers_X4 (by decide +kernel) rfl rfl (by decide) rfl dX4_kilosInBunkers_6 ?_
      refine g_icmp_ge (tgt := 29) K dX4_kilosInBunkers_9 (by decide) (fun hc => ?_) (fun hc => ?_)
      · replace hw := hw.1 hc
        exact hx29 _ _ hw
      · replace hw := hw.2 hc
        refine g_iload_n K 1 dX4_kilosInBunkers_12 rfl ?_
        refine g_aload_n K 2 dX4_kilosInBunkers_13 rfl ?_
        refine g_get K (C := RX4) (T := TX4) (N := 9) 0 2 in_X4_kilosInBunkers_X4 (by decide +kernel) rfl rfl (by decide) rfl dX4_kilosInBunkers_14 ?_
        refine g_iload_n K 0 dX4_kilosInBunkers_17 rfl ?_
        refine g_callVr (st' := fun u3 => [.int u3, .int v2]) K hR [.int v1] [.int v2] 5 rfl rfl (c_X6_sum X.2.1 (gxD X) cy sd (A 5) (A 6) 5 50 dP v1 hw) gX4_kilosInBunkers_X6_sum rfl yok_X6_sum rfl rfl (by decide) rfl (Nat.le_of_ble_eq_true rfl) dX4_kilosInBunkers_18 [5, 6] rfl (by decide) (fun _ => rfl) ⟨rfl, rfl⟩ (fun u3 hw => ?_)
        refine g_iadd K dX4_kilosInBunkers_21 ?_
        refine g_topi (fun x4 ex4 => ?_)
        replace hw := hw x4 ex4
        refine g_istore_n (lv' := [(1, .int x4), (2, .int v1), (0, .ref (A 0))]) K dX4_kilosInBunkers_22 rfl (by rw [En]; decide) rfl ?_
        obtain ⟨x5, ex5⟩ : ∃ z : Int32, z = v1 + 1 := ⟨_, rfl⟩
        replace hw := hw x5 ex5
        refine g_iinc (v := x5) (lv' := [(2, .int x5), (1, .int x4), (0, .ref (A 0))]) K 1 dX4_kilosInBunkers_23 rfl (by rw [ex5]; rfl) (by rw [En]; decide) rfl ?_
        refine g_goto (tgt := 4) K dX4_kilosInBunkers_26 (by decide) ?_
        exact ih _ _ hw
  refine key _ (fun v6 v7 hw => ?_) fl _ _ hw
  refine g_iload_n K 1 dX4_kilosInBunkers_29 rfl ?_
  exact g_zret K E Er v7 hw rfl rfl rfl (Nat.le_refl _) (Nat.le_refl _) dX4_kilosInBunkers_30

def wp_X4_paid_L4 (dN : XRow) (dBc : Int32) (dC : XRow) (k4_85 : Int32 → Int64 → Prop) : Nat → Int32 → Int64 → Prop
  | 0, _, _ => False
  | fu + 1, v1, v2 => (dBc ≤ v1 → (k4_85 v1 v2)) ∧ (¬ dBc ≤ v1 → (wp_X6_get 12 720 dN v1 10 (fun u3 : Int32 => (u3 = 1 → (wp_X6_get 12 720 dN v1 11 (fun u5 : Int32 => wp_X6_get 5 40 dC u5 3 (fun u6 : Int32 => wp_X6_get 12 720 dN v1 6 (fun u7 : Int32 => ∀ x8 : Int64, x8 = v2 + (u7.toInt64 * u6.toInt64) → (∀ x9 : Int32, x9 = v1 + 1 → (wp_X4_paid_L4 dN dBc dC k4_85 fu x9 x8))))))) ∧ (¬ u3 = 1 → (∀ x4 : Int32, x4 = v1 + 1 → (wp_X4_paid_L4 dN dBc dC k4_85 fu x4 v2))))))
def wp_X4_paid (dN : XRow) (dBc : Int32) (dC : XRow) (post : Int64 → Prop) : Prop := ∃ fl, wp_X4_paid_L4 dN dBc dC (fun (v10 : Int32) (v11 : Int64) => post v11) fl 0 0
theorem in_X4_paid_X0 : ∀ w ∈ u_ws RX0 TX0 3, w ∈ wsX4_paid := by decide +kernel
theorem in_X4_paid_X1 : ∀ w ∈ u_ws RX1 TX1 2, w ∈ wsX4_paid := by decide +kernel
theorem in_X4_paid_X4 : ∀ w ∈ u_ws RX4 TX4 9, w ∈ wsX4_paid := by decide +kernel
set_option maxRecDepth 100000 in
set_option maxHeartbeats 4000000 in
theorem c_X4_paid (l : Launch) (D : va_G) (cy : Nat → ClassId) (sd : xSd) (A : Nat → Nat) (dS : XRow) (dM : XRow) (dP : XRow) (dN : XRow) (dBc : Int32) (dO : XRow) (dC : XRow) (dCc : Int32) (dR : XRow) (dMc : Int32) (dZ : Int32) (dPc : Int32) {post : Int64 → Prop} (hw : wp_X4_paid dN dBc dC post) : Ctr l D (xTys cy) sd yX4_paid wsX4_paid ({ frames := 1, cells := 0, slots := 0, locals := 23 } : Room) [.ref (A 0)] (fun u : Int64 => some (.long u)) [((A 0), .inr (5, [.ref (A 1), .ref (A 3), .ref (A 5), .ref (A 7), .ref (A 12), .ref (A 15), .int dMc, .int dZ, .int dPc])), ((A 1), .inr (7, [.int 5, .ref (A 2)])), ((A 2), .inl (cy 0, 5, .inl dS)), ((A 3), .inr (7, [.int 7, .ref (A 4)])), ((A 4), .inl (cy 0, 42, .inl dM)), ((A 5), .inr (7, [.int 5, .ref (A 6)])), ((A 6), .inl (cy 0, 50, .inl dP)), ((A 7), .inr (2, [.ref (A 8), .ref (A 10), .int dBc])), ((A 8), .inr (7, [.int 12, .ref (A 9)])), ((A 9), .inl (cy 0, 720, .inl dN)), ((A 10), .inr (7, [.int 60, .ref (A 11)])), ((A 11), .inl (cy 0, 60, .inl dO)), ((A 12), .inr (3, [.ref (A 13), .int dCc])), ((A 13), .inr (7, [.int 5, .ref (A 14)])), ((A 14), .inl (cy 0, 40, .inl dC)), ((A 15), .inr (7, [.int 5, .ref (A 16)])), ((A 16), .inl (cy 0, 5, .inl dR))] (fun _ => [((A 0), .inr (5, [.ref (A 1), .ref (A 3), .ref (A 5), .ref (A 7), .ref (A 12), .ref (A 15), .int dMc, .int dZ, .int dPc])), ((A 1), .inr (7, [.int 5, .ref (A 2)])), ((A 2), .inl (cy 0, 5, .inl dS)), ((A 3), .inr (7, [.int 7, .ref (A 4)])), ((A 4), .inl (cy 0, 42, .inl dM)), ((A 5), .inr (7, [.int 5, .ref (A 6)])), ((A 6), .inl (cy 0, 50, .inl dP)), ((A 7), .inr (2, [.ref (A 8), .ref (A 10), .int dBc])), ((A 8), .inr (7, [.int 12, .ref (A 9)])), ((A 9), .inl (cy 0, 720, .inl dN)), ((A 10), .inr (7, [.int 60, .ref (A 11)])), ((A 11), .inl (cy 0, 60, .inl dO)), ((A 12), .inr (3, [.ref (A 13), .int dCc])), ((A 13), .inr (7, [.int 5, .ref (A 14)])), ((A 14), .inl (cy 0, 40, .inl dC)), ((A 15), .inr (7, [.int 5, .ref (A 16)])), ((A 16), .inl (cy 0, 5, .inl dR))]) post := by
  refine Ctr.of (cc := cX4_paid) (maxL := 5) (ret := (some .long)) (lv0 := [(0, .ref (A 0))]) (by decide) rfl (Nat.le_of_ble_eq_true rfl) rfl ?_
  intro X El hR Er Enm ED E En K
  have K : Cx X cX4_paid RX4 wsX4_paid (xTys cy) sd := K
  have E : X.2.2.2.2.2.2.2.2.2.2.1 = xMQ X (fun u : Int64 => some (.long u)) post (fun _ => [((A 0), .inr (5, [.ref (A 1), .ref (A 3), .ref (A 5), .ref (A 7), .ref (A 12), .ref (A 15), .int dMc, .int dZ, .int dPc])), ((A 1), .inr (7, [.int 5, .ref (A 2)])), ((A 2), .inl (cy 0, 5, .inl dS)), ((A 3), .inr (7, [.int 7, .ref (A 4)])), ((A 4), .inl (cy 0, 42, .inl dM)), ((A 5), .inr (7, [.int 5, .ref (A 6)])), ((A 6), .inl (cy 0, 50, .inl dP)), ((A 7), .inr (2, [.ref (A 8), .ref (A 10), .int dBc])), ((A 8), .inr (7, [.int 12, .ref (A 9)])), ((A 9), .inl (cy 0, 720, .inl dN)), ((A 10), .inr (7, [.int 60, .ref (A 11)])), ((A 11), .inl (cy 0, 60, .inl dO)), ((A 12), .inr (3, [.ref (A 13), .int dCc])), ((A 13), .inr (7, [.int 5, .ref (A 14)])), ((A 14), .inl (cy 0, 40, .inl dC)), ((A 15), .inr (7, [.int 5, .ref (A 16)])), ((A 16), .inl (cy 0, 5, .inl dR))]) 0 0 := E
  unfold wp_X4_paid at hw
  refine g_lconst (v := 0) K dX4_paid_0 rfl ?_
  refine g_lstore_n (lv' := [(1, .long 0), (0, .ref (A 0))]) K dX4_paid_1 rfl (by rw [En]; decide) rfl ?_
  refine g_iconst (v := 0) K dX4_paid_2 rfl ?_
  refine g_istore_n (lv' := [(3, .int 0), (1, .long 0), (0, .ref (A 0))]) K dX4_paid_3 rfl (by rw [En]; decide) rfl ?_
  obtain ⟨fl, hw⟩ := hw
  have key : ∀ (k4_85 : Int32 → Int64 → Prop), (∀ (v1 : Int32) (v2 : Int64), k4_85 v1 v2 → Gx X 0 0 [((A 0), .inr (5, [.ref (A 1), .ref (A 3), .ref (A 5), .ref (A 7), .ref (A 12), .ref (A 15), .int dMc, .int dZ, .int dPc])), ((A 1), .inr (7, [.int 5, .ref (A 2)])), ((A 2), .inl (cy 0, 5, .inl dS)), ((A 3), .inr (7, [.int 7, .ref (A 4)])), ((A 4), .inl (cy 0, 42, .inl dM)), ((A 5), .inr (7, [.int 5, .ref (A 6)])), ((A 6), .inl (cy 0, 50, .inl dP)), ((A 7), .inr (2, [.ref (A 8), .ref (A 10), .int dBc])), ((A 8), .inr (7, [.int 12, .ref (A 9)])), ((A 9), .inl (cy 0, 720, .inl dN)), ((A 10), .inr (7, [.int 60, .ref (A 11)])), ((A 11), .inl (cy 0, 60, .inl dO)), ((A 12), .inr (3, [.ref (A 13), .int dCc])), ((A 13), .inr (7, [.int 5, .ref (A 14)])), ((A 14), .inl (cy 0, 40, .inl dC)), ((A 15), .inr (7, [.int 5, .ref (A 16)])), ((A 16), .inl (cy 0, 5, .inl dR))] [(3, .int v1), (1, .long v2), (0, .ref (A 0))] 85 []) → ∀ (n : Nat) (v1 : Int32) (v2 : Int64), wp_X4_paid_L4 dN dBc dC k4_85 n v1 v2 → Gx X 0 0 [((A 0), .inr (5, [.ref (A 1), .ref (A 3), .ref (A 5), .ref (A 7), .ref (A 12), .ref (A 15), .int dMc, .int dZ, .int dPc])), ((A 1), .inr (7, [.int 5, .ref (A 2)])), ((A 2), .inl (cy 0, 5, .inl dS)), ((A 3), .inr (7, [.int 7, .ref (A 4)])), ((A 4), .inl (cy 0, 42, .inl dM)), ((A 5), .inr (7, [.int 5, .ref (A 6)])), ((A 6), .inl (cy 0, 50, .inl dP)), ((A 7), .inr (2, [.ref (A 8), .ref (A 10), .int dBc])), ((A 8), .inr (7, [.int 12, .ref (A 9)])), ((A 9), .inl (cy 0, 720, .inl dN)), ((A 10), .inr (7, [.int 60, .ref (A 11)])), ((A 11), .inl (cy 0, 60, .inl dO)), ((A 12), .inr (3, [.ref (A 13), .int dCc])), ((A 13), .inr (7, [.int 5, .ref (A 14)])), ((A 14), .inl (cy 0, 40, .inl dC)), ((A 15), .inr (7, [.int 5, .ref (A 16)])), ((A 16), .inl (cy 0, 5, .inl dR))] [(3, .int v1), (1, .long v2), (0, .ref (A 0))] 4 [] := by
    intro k4_85 hx85 n
    induction n with
    | zero => intro v1 v2 hw; exact hw.elim
    | succ n ih =>
      intro v1 v2 hw
      refine g_iload_n K 0 dX4_paid_4 rfl ?_
      refine g_aload_n K 2 dX4_paid_5 rfl ?_
      refine g_get K (C := RX4) (T := TX4) (N := 9) 0 3 in_X4_paid_X4 (by decide +kernel) rfl rfl (by decide) rfl dX4_paid_6 ?_
      refine g_get K (C := RX0) (T := TX0) (N := 3) 7 2 in_X4_paid_X0 (by decide +kernel) rfl rfl (by decide) rfl dX4_paid_9 ?_
      refine g_icmp_ge (tgt := 85) K dX4_paid_12 (by decide) (fun hc => ?_) (fun hc => ?_)
      · replace hw := hw.1 hc
        exact hx85 _ _ hw
      · replace hw := hw.2 hc
        refine g_aload_n K 2 dX4_paid_15 rfl ?_
        refine g_get K (C := RX4) (T := TX4) (N := 9) 0 3 in_X4_paid_X4 (by decide +kernel) rfl rfl (by decide) rfl dX4_paid_16 ?_
        refine g_get K (C := RX0) (T := TX0) (N := 3) 7 0 in_X4_paid_X0 (by decide +kernel) rfl rfl (by decide) rfl dX4_paid_19 ?_
        refine g_iload_n K 0 dX4_paid_22 rfl ?_
        refine g_bipush (v := 10) K dX4_paid_23 rfl ?_
        refine g_callVr (st' := fun u3 => [.int u3]) K hR [.int v1, .int 10] [] 8 rfl rfl (c_X6_get X.2.1 (gxD X) cy sd (A 8) (A 9) 12 720 dN v1 10 hw) gX4_paid_X6_get rfl yok_X6_get rfl rfl (by decide) rfl (Nat.le_of_ble_eq_true rfl) dX4_paid_25 [8, 9] rfl (by decide) (fun _ => rfl) ⟨rfl, rfl⟩ (fun u3 hw => ?_)
        refine g_iconst (v := 1) K dX4_paid_28 rfl ?_
        refine g_icmp_ne (tgt := 79) K dX4_paid_29 (by decide) (fun hc => ?_) (fun hc => ?_)
        · replace hw := hw.2 hc
          obtain ⟨x4, ex4⟩ : ∃ z : Int32, z = v1 + 1 := ⟨_, rfl⟩
          replace hw := hw x4 ex4
          refine g_iinc (v := x4) (lv' := [(3, .int x4), (1, .long v2), (0, .ref (A 0))]) K 0 dX4_paid_79 rfl (by rw [ex4]; rfl) (by rw [En]; decide) rfl ?_
          refine g_goto (tgt := 4) K dX4_paid_82 (by decide) ?_
          exact ih _ _ hw
        · replace hw := hw.1 hc
          refine g_aload_n K 2 dX4_paid_32 rfl ?_
          refine g_get K (C := RX4) (T := TX4) (N := 9) 0 4 in_X4_paid_X4 (by decide +kernel) rfl rfl (by decide) rfl dX4_paid_33 ?_
          refine g_get K (C := RX1) (T := TX1) (N := 2) 12 0 in_X4_paid_X1 (by decide +kernel) rfl rfl (by decide) rfl dX4_paid_36 ?_
          refine g_aload_n K 2 dX4_paid_39 rfl ?_
          refine g_get K (C := RX4) (T := TX4) (N := 9) 0 3 in_X4_paid_X4 (by decide +kernel) rfl rfl (by decide) rfl dX4_paid_40 ?_
          refine g_get K (C := RX0) (T := TX0) (N := 3) 7 0 in_X4_paid_X0 (by decide +kernel) rfl rfl (by decide) rfl dX4_paid_43 ?_
          refine g_iload_n K 0 dX4_paid_46 rfl ?_
          refine g_bipush (v := 11) K dX4_paid_47 rfl ?_
          refine g_callVr (st' := fun u5 => [.int u5, .ref (A 13)]) K hR [.int v1, .int 11] [.ref (A 13)] 8 rfl rfl (c_X6_get X.2.1 (gxD X) cy sd (A 8) (A 9) 12 720 dN v1 11 hw) gX4_paid_X6_get rfl yok_X6_get rfl rfl (by decide) rfl (Nat.le_of_ble_eq_true rfl) dX4_paid_49 [8, 9] rfl (by decide) (fun _ => rfl) ⟨rfl, rfl⟩ (fun u5 hw => ?_)
          refine g_iconst (v := 3) K dX4_paid_52 rfl ?_
          refine g_callVr (st' := fun u6 => [.int u6]) K hR [.int u5, .int 3] [] 13 rfl rfl (c_X6_get X.2.1 (gxD X) cy sd (A 13) (A 14) 5 40 dC u5 3 hw) gX4_paid_X6_get rfl yok_X6_get rfl rfl (by decide) rfl (Nat.le_of_ble_eq_true rfl) dX4_paid_53 [13, 14] rfl (by decide) (fun _ => rfl) ⟨rfl, rfl⟩ (fun u6 hw => ?_)
          refine g_istore (lv' := [(4, .int u6), (3, .int v1), (1, .long v2), (0, .ref (A 0))]) K dX4_paid_56 (by rw [En]; decide) rfl ?_
          refine g_lload_n K 2 dX4_paid_58 rfl ?_
          refine g_aload_n K 3 dX4_paid_59 rfl ?_
          refine g_get K (C := RX4) (T := TX4) (N := 9) 0 3 in_X4_paid_X4 (by decide +kernel) rfl rfl (by decide) rfl dX4_paid_60 ?_
          refine g_get K (C := RX0) (T := TX0) (N := 3) 7 0 in_X4_paid_X0 (by decide +kernel) rfl rfl (by decide) rfl dX4_paid_63 ?_
          refine g_iload_n K 1 dX4_paid_66 rfl ?_
          refine g_bipush (v := 6) K dX4_paid_67 rfl ?_
          refine g_callVr (st' := fun u7 => [.int u7, .long v2]) K hR [.int v1, .int 6] [.long v2] 8 rfl rfl (c_X6_get X.2.1 (gxD X) cy sd (A 8) (A 9) 12 720 dN v1 6 hw) gX4_paid_X6_get rfl yok_X6_get rfl rfl (by decide) rfl (Nat.le_of_ble_eq_true rfl) dX4_paid_69 [8, 9] rfl (by decide) (fun _ => rfl) ⟨rfl, rfl⟩ (fun u7 hw => ?_)
          refine g_i2l (v := u7.toInt64) K dX4_paid_72 rfl ?_
          refine g_iload K 0 dX4_paid_73 rfl ?_
          refine g_i2l (v := u6.toInt64) K dX4_paid_75 rfl ?_
          refine g_lmul K dX4_paid_76 ?_
          refine g_ladd K dX4_paid_77 ?_
          refine g_topl (fun x8 ex8 => ?_)
          replace hw := hw x8 ex8
          refine g_lstore_n (lv' := [(1, .long x8), (4, .int u6), (3, .int v1), (0, .ref (A 0))]) K dX4_paid_78 rfl (by rw [En]; decide) rfl ?_
          obtain ⟨x9, ex9⟩ : ∃ z : Int32, z = v1 + 1 := ⟨_, rfl⟩
          replace hw := hw x9 ex9
          refine g_iinc (v := x9) (lv' := [(3, .int x9), (1, .long x8), (4, .int u6), (0, .ref (A 0))]) K 2 dX4_paid_79 rfl (by rw [ex9]; rfl) (by rw [En]; decide) rfl ?_
          refine g_goto (tgt := 4) K dX4_paid_82 (by decide) ?_
          refine gx_locals [0, 1, 3] rfl ?_
          exact ih _ _ hw
  refine key _ (fun v10 v11 hw => ?_) fl _ _ hw
  refine g_lload_n K 1 dX4_paid_85 rfl ?_
  exact g_lret K E Er v11 hw rfl rfl (Nat.le_refl _) (Nat.le_refl _) dX4_paid_86

def wp_X4_accountOf (dP : XRow) (dN : XRow) (dBc : Int32) (dC : XRow) (dCc : Int32) (dMc : Int32) (dZ : Int32) (dPc : Int32) (p0 : Int32) (post : Int64 → Prop) : Prop := ((p0.toInt < 5 ∨ 5 + (11 : Nat) ≤ p0.toInt) → (wp_X6_get 5 50 dP 8 p0 (fun u1 : Int32 => post u1.toInt64))) ∧ (p0 = 5 → (wp_X6_sum 5 50 dP 6 (fun u2 : Int32 => post u2.toInt64))) ∧ (p0 = 6 → (wp_X4_kilosInBunkers dP dMc (fun u3 : Int32 => post u3.toInt64))) ∧ (p0 = 7 → (wp_X0_kilosIn dN dBc 0 (fun u4 : Int32 => post u4.toInt64))) ∧ (p0 = 8 → (wp_X0_kilosIn dN dBc 1 (fun u5 : Int32 => post u5.toInt64))) ∧ (p0 = 9 → (wp_X6_sum 5 50 dP 7 (fun u6 : Int32 => post u6.toInt64))) ∧ (p0 = 10 → (post dBc.toInt64)) ∧ (p0 = 11 → (post dCc.toInt64)) ∧ (p0 = 12 → (post dPc.toInt64)) ∧ (p0 = 13 → (wp_X4_paid dN dBc dC (fun u7 : Int64 => post u7))) ∧ (p0 = 14 → (post dMc.toInt64)) ∧ (p0 = 15 → (post dZ.toInt64))
theorem in_X4_accountOf_X0 : ∀ w ∈ u_ws RX0 TX0 3, w ∈ wsX4_accountOf := by decide +kernel
theorem in_X4_accountOf_X1 : ∀ w ∈ u_ws RX1 TX1 2, w ∈ wsX4_accountOf := by decide +kernel
theorem in_X4_accountOf_X4 : ∀ w ∈ u_ws RX4 TX4 9, w ∈ wsX4_accountOf := by decide +kernel
set_option maxRecDepth 100000 in
set_option maxHeartbeats 4000000 in
theorem c_X4_accountOf (l : Launch) (D : va_G) (cy : Nat → ClassId) (sd : xSd) (A : Nat → Nat) (dS : XRow) (dM : XRow) (dP : XRow) (dN : XRow) (dBc : Int32) (dO : XRow) (dC : XRow) (dCc : Int32) (dR : XRow) (dMc : Int32) (dZ : Int32) (dPc : Int32) (p0 : Int32) {post : Int64 → Prop} (hw : wp_X4_accountOf dP dN dBc dC dCc dMc dZ dPc p0 post) : Ctr l D (xTys cy) sd yX4_accountOf wsX4_accountOf ({ frames := 3, cells := 0, slots := 0, locals := 68 } : Room) [.ref (A 0), .int p0] (fun u : Int64 => some (.long u)) [((A 0), .inr (5, [.ref (A 1), .ref (A 3), .ref (A 5), .ref (A 7), .ref (A 12), .ref (A 15), .int dMc, .int dZ, .int dPc])), ((A 1), .inr (7, [.int 5, .ref (A 2)])), ((A 2), .inl (cy 0, 5, .inl dS)), ((A 3), .inr (7, [.int 7, .ref (A 4)])), ((A 4), .inl (cy 0, 42, .inl dM)), ((A 5), .inr (7, [.int 5, .ref (A 6)])), ((A 6), .inl (cy 0, 50, .inl dP)), ((A 7), .inr (2, [.ref (A 8), .ref (A 10), .int dBc])), ((A 8), .inr (7, [.int 12, .ref (A 9)])), ((A 9), .inl (cy 0, 720, .inl dN)), ((A 10), .inr (7, [.int 60, .ref (A 11)])), ((A 11), .inl (cy 0, 60, .inl dO)), ((A 12), .inr (3, [.ref (A 13), .int dCc])), ((A 13), .inr (7, [.int 5, .ref (A 14)])), ((A 14), .inl (cy 0, 40, .inl dC)), ((A 15), .inr (7, [.int 5, .ref (A 16)])), ((A 16), .inl (cy 0, 5, .inl dR))] (fun _ => [((A 0), .inr (5, [.ref (A 1), .ref (A 3), .ref (A 5), .ref (A 7), .ref (A 12), .ref (A 15), .int dMc, .int dZ, .int dPc])), ((A 1), .inr (7, [.int 5, .ref (A 2)])), ((A 2), .inl (cy 0, 5, .inl dS)), ((A 3), .inr (7, [.int 7, .ref (A 4)])), ((A 4), .inl (cy 0, 42, .inl dM)), ((A 5), .inr (7, [.int 5, .ref (A 6)])), ((A 6), .inl (cy 0, 50, .inl dP)), ((A 7), .inr (2, [.ref (A 8), .ref (A 10), .int dBc])), ((A 8), .inr (7, [.int 12, .ref (A 9)])), ((A 9), .inl (cy 0, 720, .inl dN)), ((A 10), .inr (7, [.int 60, .ref (A 11)])), ((A 11), .inl (cy 0, 60, .inl dO)), ((A 12), .inr (3, [.ref (A 13), .int dCc])), ((A 13), .inr (7, [.int 5, .ref (A 14)])), ((A 14), .inl (cy 0, 40, .inl dC)), ((A 15), .inr (7, [.int 5, .ref (A 16)])), ((A 16), .inl (cy 0, 5, .inl dR))]) post := by
  refine Ctr.of (cc := cX4_accountOf) (maxL := 2) (ret := (some .long)) (lv0 := [(0, .ref (A 0)), (1, .int p0)]) (by decide) rfl (Nat.le_of_ble_eq_true rfl) rfl ?_
  intro X El hR Er Enm ED E En K
  have K : Cx X cX4_accountOf RX4 wsX4_accountOf (xTys cy) sd := K
  have E : X.2.2.2.2.2.2.2.2.2.2.1 = xMQ X (fun u : Int64 => some (.long u)) post (fun _ => [((A 0), .inr (5, [.ref (A 1), .ref (A 3), .ref (A 5), .ref (A 7), .ref (A 12), .ref (A 15), .int dMc, .int dZ, .int dPc])), ((A 1), .inr (7, [.int 5, .ref (A 2)])), ((A 2), .inl (cy 0, 5, .inl dS)), ((A 3), .inr (7, [.int 7, .ref (A 4)])), ((A 4), .inl (cy 0, 42, .inl dM)), ((A 5), .inr (7, [.int 5, .ref (A 6)])), ((A 6), .inl (cy 0, 50, .inl dP)), ((A 7), .inr (2, [.ref (A 8), .ref (A 10), .int dBc])), ((A 8), .inr (7, [.int 12, .ref (A 9)])), ((A 9), .inl (cy 0, 720, .inl dN)), ((A 10), .inr (7, [.int 60, .ref (A 11)])), ((A 11), .inl (cy 0, 60, .inl dO)), ((A 12), .inr (3, [.ref (A 13), .int dCc])), ((A 13), .inr (7, [.int 5, .ref (A 14)])), ((A 14), .inl (cy 0, 40, .inl dC)), ((A 15), .inr (7, [.int 5, .ref (A 16)])), ((A 16), .inl (cy 0, 5, .inl dR))]) 0 0 := E
  unfold wp_X4_accountOf at hw
  refine g_iload_n K 1 dX4_accountOf_0 rfl ?_
  rcases sw_out (x := p0) (lo := 5) (n := 11) with hc | ⟨k, hk, hc⟩
  · refine g_tableOut (tgt := 149) K dX4_accountOf_1 (by omega) (by decide) ?_
    replace hw := hw.1 hc
    refine g_aload_n K 0 dX4_accountOf_149 rfl ?_
    refine g_get K (C := RX4) (T := TX4) (N := 9) 0 2 in_X4_accountOf_X4 (by decide +kernel) rfl rfl (by decide) rfl dX4_accountOf_150 ?_
    refine g_bipush (v := 8) K dX4_accountOf_153 rfl ?_
    refine g_iload_n K 1 dX4_accountOf_155 rfl ?_
    refine g_callVr (st' := fun u1 => [.int u1]) K hR [.int 8, .int p0] [] 5 rfl rfl (c_X6_get X.2.1 (gxD X) cy sd (A 5) (A 6) 5 50 dP 8 p0 hw) gX4_accountOf_X6_get rfl yok_X6_get rfl rfl (by decide) rfl (Nat.le_of_ble_eq_true rfl) dX4_accountOf_156 [5, 6] rfl (by decide) (fun _ => rfl) ⟨rfl, rfl⟩ (fun u1 hw => ?_)
    refine g_i2l (v := u1.toInt64) K dX4_accountOf_159 rfl ?_
    exact g_lret K E Er u1.toInt64 hw rfl rfl (Nat.le_refl _) (Nat.le_refl _) dX4_accountOf_160
  · replace hw := hw.2
    rcases (show k = 0 ∨ 1 ≤ k by omega) with hk0 | hk0
    · have hx9 : p0 = 5 := Int32.toInt_inj.mp (by rw [hc, hk0]; decide)
      refine g_tableIn (tgt := 60) (off := 59) K dX4_accountOf_1 (by rw [hx9]; decide) (by rw [hx9]; decide) (by rw [hx9]; rfl) (by decide) ?_
      replace hw := hw.1 hx9
      refine g_aload_n K 0 dX4_accountOf_60 rfl ?_
      refine g_get K (C := RX4) (T := TX4) (N := 9) 0 2 in_X4_accountOf_X4 (by decide +kernel) rfl rfl (by decide) rfl dX4_accountOf_61 ?_
      refine g_bipush (v := 6) K dX4_accountOf_64 rfl ?_
      refine g_callVr (st' := fun u2 => [.int u2]) K hR [.int 6] [] 5 rfl rfl (c_X6_sum X.2.1 (gxD X) cy sd (A 5) (A 6) 5 50 dP 6 hw) gX4_accountOf_X6_sum rfl yok_X6_sum rfl rfl (by decide) rfl (Nat.le_of_ble_eq_true rfl) dX4_accountOf_66 [5, 6] rfl (by decide) (fun _ => rfl) ⟨rfl, rfl⟩ (fun u2 hw => ?_)
      refine g_i2l (v := u2.toInt64) K dX4_accountOf_69 rfl ?_
      exact g_lret K E Er u2.toInt64 hw rfl rfl (Nat.le_refl _) (Nat.le_refl _) dX4_accountOf_70
    replace hw := hw.2
    rcases (show k = 1 ∨ 2 ≤ k by omega) with hk1 | hk1
    · have hx9 : p0 = 6 := Int32.toInt_inj.mp (by rw [hc, hk1]; decide)
      refine g_tableIn (tgt := 71) (off := 70) K dX4_accountOf_1 (by rw [hx9]; decide) (by rw [hx9]; decide) (by rw [hx9]; rfl) (by decide) ?_
      replace hw := hw.1 hx9
      refine g_aload_n K 0 dX4_accountOf_71 rfl ?_
      refine g_callVr (st' := fun u3 => [.int u3]) K hR [] [] 0 rfl rfl (c_X4_kilosInBunkers X.2.1 (gxD X) cy sd A dS dM dP dN dBc dO dC dCc dR dMc dZ dPc hw) gX4_accountOf_X4_kilosInBunkers rfl yok_X4_kilosInBunkers rfl rfl (by decide) rfl (Nat.le_of_ble_eq_true rfl) dX4_accountOf_72 [0, 1, 2, 3, 4, 5, 6, 7, 8, 9, 10, 11, 12, 13, 14, 15, 16] rfl (by decide) (fun _ => rfl) ⟨rfl, rfl⟩ (fun u3 hw => ?_)
      refine g_i2l (v := u3.toInt64) K dX4_accountOf_75 rfl ?_
      exact g_lret K E Er u3.toInt64 hw rfl rfl (Nat.le_refl _) (Nat.le_refl _) dX4_accountOf_76
    replace hw := hw.2
    rcases (show k = 2 ∨ 3 ≤ k by omega) with hk2 | hk2
    · have hx9 : p0 = 7 := Int32.toInt_inj.mp (by rw [hc, hk2]; decide)
      refine g_tableIn (tgt := 77) (off := 76) K dX4_accountOf_1 (by rw [hx9]; decide) (by rw [hx9]; decide) (by rw [hx9]; rfl) (by decide) ?_
      replace hw := hw.1 hx9
      refine g_aload_n K 0 dX4_accountOf_77 rfl ?_
      refine g_get K (C := RX4) (T := TX4) (N := 9) 0 3 in_X4_accountOf_X4 (by decide +kernel) rfl rfl (by decide) rfl dX4_accountOf_78 ?_
      refine g_iconst (v := 0) K dX4_accountOf_81 rfl ?_
      refine g_callVr (st' := fun u4 => [.int u4]) K hR [.int 0] [] 7 rfl rfl (c_X0_kilosIn X.2.1 (gxD X) cy sd (A 7) (A 8) (A 9) (A 10) (A 11) dN dBc dO 0 hw) gX4_accountOf_X0_kilosIn rfl yok_X0_kilosIn rfl rfl (by decide) rfl (Nat.le_of_ble_eq_true rfl) dX4_accountOf_82 [7, 8, 9, 10, 11] rfl (by decide) (fun _ => rfl) ⟨rfl, rfl⟩ (fun u4 hw => ?_)
      refine g_i2l (v := u4.toInt64) K dX4_accountOf_85 rfl ?_
      exact g_lret K E Er u4.toInt64 hw rfl rfl (Nat.le_refl _) (Nat.le_refl _) dX4_accountOf_86
    replace hw := hw.2
    rcases (show k = 3 ∨ 4 ≤ k by omega) with hk3 | hk3
    · have hx9 : p0 = 8 := Int32.toInt_inj.mp (by rw [hc, hk3]; decide)
      refine g_tableIn (tgt := 87) (off := 86) K dX4_accountOf_1 (by rw [hx9]; decide) (by rw [hx9]; decide) (by rw [hx9]; rfl) (by decide) ?_
      replace hw := hw.1 hx9
      refine g_aload_n K 0 dX4_accountOf_87 rfl ?_
      refine g_get K (C := RX4) (T := TX4) (N := 9) 0 3 in_X4_accountOf_X4 (by decide +kernel) rfl rfl (by decide) rfl dX4_accountOf_88 ?_
      refine g_iconst (v := 1) K dX4_accountOf_91 rfl ?_
      refine g_callVr (st' := fun u5 => [.int u5]) K hR [.int 1] [] 7 rfl rfl (c_X0_kilosIn X.2.1 (gxD X) cy sd (A 7) (A 8) (A 9) (A 10) (A 11) dN dBc dO 1 hw) gX4_accountOf_X0_kilosIn rfl yok_X0_kilosIn rfl rfl (by decide) rfl (Nat.le_of_ble_eq_true rfl) dX4_accountOf_92 [7, 8, 9, 10, 11] rfl (by decide) (fun _ => rfl) ⟨rfl, rfl⟩ (fun u5 hw => ?_)
      refine g_i2l (v := u5.toInt64) K dX4_accountOf_95 rfl ?_
      exact g_lret K E Er u5.toInt64 hw rfl rfl (Nat.le_refl _) (Nat.le_refl _) dX4_accountOf_96
    replace hw := hw.2
    rcases (show k = 4 ∨ 5 ≤ k by omega) with hk4 | hk4
    · have hx9 : p0 = 9 := Int32.toInt_inj.mp (by rw [hc, hk4]; decide)
      refine g_tableIn (tgt := 97) (off := 96) K dX4_accountOf_1 (by rw [hx9]; decide) (by rw [hx9]; decide) (by rw [hx9]; rfl) (by decide) ?_
      replace hw := hw.1 hx9
      refine g_aload_n K 0 dX4_accountOf_97 rfl ?_
      refine g_get K (C := RX4) (T := TX4) (N := 9) 0 2 in_X4_accountOf_X4 (by decide +kernel) rfl rfl (by decide) rfl dX4_accountOf_98 ?_
      refine g_bipush (v := 7) K dX4_accountOf_101 rfl ?_
      refine g_callVr (st' := fun u6 => [.int u6]) K hR [.int 7] [] 5 rfl rfl (c_X6_sum X.2.1 (gxD X) cy sd (A 5) (A 6) 5 50 dP 7 hw) gX4_accountOf_X6_sum rfl yok_X6_sum rfl rfl (by decide) rfl (Nat.le_of_ble_eq_true rfl) dX4_accountOf_103 [5, 6] rfl (by decide) (fun _ => rfl) ⟨rfl, rfl⟩ (fun u6 hw => ?_)
      refine g_i2l (v := u6.toInt64) K dX4_accountOf_106 rfl ?_
      exact g_lret K E Er u6.toInt64 hw rfl rfl (Nat.le_refl _) (Nat.le_refl _) dX4_accountOf_107
    replace hw := hw.2
    rcases (show k = 5 ∨ 6 ≤ k by omega) with hk5 | hk5
    · have hx9 : p0 = 10 := Int32.toInt_inj.mp (by rw [hc, hk5]; decide)
      refine g_tableIn (tgt := 108) (off := 107) K dX4_accountOf_1 (by rw [hx9]; decide) (by rw [hx9]; decide) (by rw [hx9]; rfl) (by decide) ?_
      replace hw := hw.1 hx9
      refine g_aload_n K 0 dX4_accountOf_108 rfl ?_
      refine g_get K (C := RX4) (T := TX4) (N := 9) 0 3 in_X4_accountOf_X4 (by decide +kernel) rfl rfl (by decide) rfl dX4_accountOf_109 ?_
      refine g_get K (C := RX0) (T := TX0) (N := 3) 7 2 in_X4_accountOf_X0 (by decide +kernel) rfl rfl (by decide) rfl dX4_accountOf_112 ?_
      refine g_i2l (v := dBc.toInt64) K dX4_accountOf_115 rfl ?_
      exact g_lret K E Er dBc.toInt64 hw rfl rfl (Nat.le_refl _) (Nat.le_refl _) dX4_accountOf_116
    replace hw := hw.2
    rcases (show k = 6 ∨ 7 ≤ k by omega) with hk6 | hk6
    · have hx9 : p0 = 11 := Int32.toInt_inj.mp (by rw [hc, hk6]; decide)
      refine g_tableIn (tgt := 117) (off := 116) K dX4_accountOf_1 (by rw [hx9]; decide) (by rw [hx9]; decide) (by rw [hx9]; rfl) (by decide) ?_
      replace hw := hw.1 hx9
      refine g_aload_n K 0 dX4_accountOf_117 rfl ?_
      refine g_get K (C := RX4) (T := TX4) (N := 9) 0 4 in_X4_accountOf_X4 (by decide +kernel) rfl rfl (by decide) rfl dX4_accountOf_118 ?_
      refine g_get K (C := RX1) (T := TX1) (N := 2) 12 1 in_X4_accountOf_X1 (by decide +kernel) rfl rfl (by decide) rfl dX4_accountOf_121 ?_
      refine g_i2l (v := dCc.toInt64) K dX4_accountOf_124 rfl ?_
      exact g_lret K E Er dCc.toInt64 hw rfl rfl (Nat.le_refl _) (Nat.le_refl _) dX4_accountOf_125
    replace hw := hw.2
    rcases (show k = 7 ∨ 8 ≤ k by omega) with hk7 | hk7
    · have hx9 : p0 = 12 := Int32.toInt_inj.mp (by rw [hc, hk7]; decide)
      refine g_tableIn (tgt := 126) (off := 125) K dX4_accountOf_1 (by rw [hx9]; decide) (by rw [hx9]; decide) (by rw [hx9]; rfl) (by decide) ?_
      replace hw := hw.1 hx9
      refine g_aload_n K 0 dX4_accountOf_126 rfl ?_
      refine g_get K (C := RX4) (T := TX4) (N := 9) 0 8 in_X4_accountOf_X4 (by decide +kernel) rfl rfl (by decide) rfl dX4_accountOf_127 ?_
      refine g_i2l (v := dPc.toInt64) K dX4_accountOf_130 rfl ?_
      exact g_lret K E Er dPc.toInt64 hw rfl rfl (Nat.le_refl _) (Nat.le_refl _) dX4_accountOf_131
    replace hw := hw.2
    rcases (show k = 8 ∨ 9 ≤ k by omega) with hk8 | hk8
    · have hx9 : p0 = 13 := Int32.toInt_inj.mp (by rw [hc, hk8]; decide)
      refine g_tableIn (tgt := 132) (off := 131) K dX4_accountOf_1 (by rw [hx9]; decide) (by rw [hx9]; decide) (by rw [hx9]; rfl) (by decide) ?_
      replace hw := hw.1 hx9
      refine g_aload_n K 0 dX4_accountOf_132 rfl ?_
      refine g_callVr (st' := fun u7 => [.long u7]) K hR [] [] 0 rfl rfl (c_X4_paid X.2.1 (gxD X) cy sd A dS dM dP dN dBc dO dC dCc dR dMc dZ dPc hw) gX4_accountOf_X4_paid rfl yok_X4_paid rfl rfl (by decide) rfl (Nat.le_of_ble_eq_true rfl) dX4_accountOf_133 [0, 1, 2, 3, 4, 5, 6, 7, 8, 9, 10, 11, 12, 13, 14, 15, 16] rfl (by decide) (fun _ => rfl) ⟨rfl, rfl⟩ (fun u7 hw => ?_)
      exact g_lret K E Er u7 hw rfl rfl (Nat.le_refl _) (Nat.le_refl _) dX4_accountOf_136
    replace hw := hw.2
    rcases (show k = 9 ∨ 10 ≤ k by omega) with hk9 | hk9
    · have hx9 : p0 = 14 := Int32.toInt_inj.mp (by rw [hc, hk9]; decide)
      refine g_tableIn (tgt := 137) (off := 136) K dX4_accountOf_1 (by rw [hx9]; decide) (by rw [hx9]; decide) (by rw [hx9]; rfl) (by decide) ?_
      replace hw := hw.1 hx9
      refine g_aload_n K 0 dX4_accountOf_137 rfl ?_
      refine g_get K (C := RX4) (T := TX4) (N := 9) 0 6 in_X4_accountOf_X4 (by decide +kernel) rfl rfl (by decide) rfl dX4_accountOf_138 ?_
      refine g_i2l (v := dMc.toInt64) K dX4_accountOf_141 rfl ?_
      exact g_lret K E Er dMc.toInt64 hw rfl rfl (Nat.le_refl _) (Nat.le_refl _) dX4_accountOf_142
    replace hw := hw.2
    have hx9 : p0 = 15 := Int32.toInt_inj.mp (by rw [hc, show k = 10 by omega]; decide)
    refine g_tableIn (tgt := 143) (off := 142) K dX4_accountOf_1 (by rw [hx9]; decide) (by rw [hx9]; decide) (by rw [hx9]; rfl) (by decide) ?_
    replace hw := hw hx9
    refine g_aload_n K 0 dX4_accountOf_143 rfl ?_
    refine g_get K (C := RX4) (T := TX4) (N := 9) 0 7 in_X4_accountOf_X4 (by decide +kernel) rfl rfl (by decide) rfl dX4_accountOf_144 ?_
    refine g_i2l (v := dZ.toInt64) K dX4_accountOf_147 rfl ?_
    exact g_lret K E Er dZ.toInt64 hw rfl rfl (Nat.le_refl _) (Nat.le_refl _) dX4_accountOf_148
