theorem yok_X9_thrown : yOk yX9_thrown 0 := by decide +kernel
theorem yok_X9_fails : yOk yX9_fails 1 := by decide +kernel
theorem yok_X9_in : yOk yX9_in 3 := by decide +kernel
theorem yok_X9_isMaterial : yOk yX9_isMaterial 1 := by decide +kernel
theorem yok_X9_isMachine : yOk yX9_isMachine 1 := by decide +kernel
theorem yok_X9_machineAt : yOk yX9_machineAt 2 := by decide +kernel
theorem yok_X9_contractAt : yOk yX9_contractAt 2 := by decide +kernel
theorem yok_X9_baleAt : yOk yX9_baleAt 2 := by decide +kernel
theorem yok_X9_copies : yOk yX9_copies 4 := by decide +kernel
theorem yok_X9_sum : yOk yX9_sum 1 := by decide +kernel
theorem yok_X9_changes : yOk yX9_changes 1 := by decide +kernel
theorem yok_X9_undo : yOk yX9_undo 0 := by decide +kernel
theorem yok_X9_save : yOk yX9_save 0 := by decide +kernel
theorem yok_X9_restore : yOk yX9_restore 0 := by decide +kernel
theorem yok_X9_mayBe : yOk yX9_mayBe 2 := by decide +kernel
theorem yok_X9_addMachine : yOk yX9_addMachine 5 := by decide +kernel
theorem yok_X9_removeMachine : yOk yX9_removeMachine 0 := by decide +kernel
theorem yok_X9_exchange : yOk yX9_exchange 2 := by decide +kernel
theorem yok_X9_setMachine : yOk yX9_setMachine 3 := by decide +kernel
theorem yok_X9_machine : yOk yX9_machine 2 := by decide +kernel
theorem yok_X9_excess : yOk yX9_excess 2 := by decide +kernel
theorem yok_X9_catches : yOk yX9_catches 2 := by decide +kernel
theorem yok_X9_mistakes : yOk yX9_mistakes 2 := by decide +kernel
theorem yok_X9_rate : yOk yX9_rate 3 := by decide +kernel
theorem yok_X9_maySet : yOk yX9_maySet 2 := by decide +kernel
theorem yok_X9_set : yOk yX9_set 2 := by decide +kernel
theorem yok_X9_seed : yOk yX9_seed 1 := by decide +kernel
theorem yok_X9_againstFeed : yOk yX9_againstFeed 2 := by decide +kernel
theorem yok_X9_feeds : yOk yX9_feeds 2 := by decide +kernel
theorem yok_X9_feed : yOk yX9_feed 2 := by decide +kernel
def wp_X9_thrown (mthrown : Int32) (post : Int32 → Prop) : Prop := post mthrown
theorem in_X9_thrown_X9 : ∀ w ∈ u_ws RX9 TX9 22, w ∈ wsX9_thrown := by decide +kernel
set_option maxRecDepth 100000 in
set_option maxHeartbeats 4000000 in
theorem c_X9_thrown (l : Launch) (D : va_G) (cy : Nat → ClassId) (sd : xSd) (A : Nat → Nat) (mg : XRow) (mkept : XRow) (mspare : XRow) (mtrial : XRow) (mpast : XRow) (mreport : XRow) (mpart : XRow) (mcome : XRow) (morder : XRow) (mtext : XRow) (mtold : XRow) (mahead : XRow) (mhasKept : Int32) (mpasts : Int32) (mreports : Int32) (mthrown : Int32) (mordering : Int32) (mdetail : Int32) (mlength : Int32) (mspot : Int32) (mnumber : Int32) (mtolds : Int32) {post : Int32 → Prop} (hw : wp_X9_thrown mthrown post) : Ctr l D (xTys cy) sd yX9_thrown wsX9_thrown ({ frames := 0, cells := 0, slots := 0, locals := 0 } : Room) [.ref (A 0)] (fun u : Int32 => some (.int u)) [((A 0), .inr (10, [.ref (A 1), .ref (A 2), .ref (A 3), .ref (A 4), .int mhasKept, .ref (A 5), .int mpasts, .ref (A 6), .int mreports, .int mthrown, .ref (A 7), .ref (A 8), .ref (A 9), .int mordering, .int mdetail, .ref (A 10), .int mlength, .int mspot, .int mnumber, .ref (A 11), .int mtolds, .ref (A 12)])), ((A 1), .inl (cy 0, 672, .inl mg)), ((A 2), .inl (cy 0, 672, .inl mkept)), ((A 3), .inl (cy 0, 672, .inl mspare)), ((A 4), .inl (cy 0, 672, .inl mtrial)), ((A 5), .inl (cy 0, 5376, .inl mpast)), ((A 6), .inl (cy 0, 6, .inl mreport)), ((A 7), .inl (cy 0, 5, .inl mpart)), ((A 8), .inl (cy 0, 5, .inl mcome)), ((A 9), .inl (cy 0, 60, .inl morder)), ((A 10), .inl (cy 0, 80, .inl mtext)), ((A 11), .inl (cy 0, 200, .inl mtold)), ((A 12), .inl (cy 0, 672, .inl mahead))] (fun _ => [((A 0), .inr (10, [.ref (A 1), .ref (A 2), .ref (A 3), .ref (A 4), .int mhasKept, .ref (A 5), .int mpasts, .ref (A 6), .int mreports, .int mthrown, .ref (A 7), .ref (A 8), .ref (A 9), .int mordering, .int mdetail, .ref (A 10), .int mlength, .int mspot, .int mnumber, .ref (A 11), .int mtolds, .ref (A 12)])), ((A 1), .inl (cy 0, 672, .inl mg)), ((A 2), .inl (cy 0, 672, .inl mkept)), ((A 3), .inl (cy 0, 672, .inl mspare)), ((A 4), .inl (cy 0, 672, .inl mtrial)), ((A 5), .inl (cy 0, 5376, .inl mpast)), ((A 6), .inl (cy 0, 6, .inl mreport)), ((A 7), .inl (cy 0, 5, .inl mpart)), ((A 8), .inl (cy 0, 5, .inl mcome)), ((A 9), .inl (cy 0, 60, .inl morder)), ((A 10), .inl (cy 0, 80, .inl mtext)), ((A 11), .inl (cy 0, 200, .inl mtold)), ((A 12), .inl (cy 0, 672, .inl mahead))]) post := by
  refine Ctr.of (cc := cX9_thrown) (maxL := 1) (ret := (some .int)) (lv0 := [(0, .ref (A 0))]) (by decide) rfl (Nat.le_of_ble_eq_true rfl) rfl ?_
  intro X El hR Er Enm ED E En K
  have K : Cx X cX9_thrown RX9 wsX9_thrown (xTys cy) sd := K
  have E : X.2.2.2.2.2.2.2.2.2.2.1 = xMQ X (fun u : Int32 => some (.int u)) post (fun _ => [((A 0), .inr (10, [.ref (A 1), .ref (A 2), .ref (A 3), .ref (A 4), .int mhasKept, .ref (A 5), .int mpasts, .ref (A 6), .int mreports, .int mthrown, .ref (A 7), .ref (A 8), .ref (A 9), .int mordering, .int mdetail, .ref (A 10), .int mlength, .int mspot, .int mnumber, .ref (A 11), .int mtolds, .ref (A 12)])), ((A 1), .inl (cy 0, 672, .inl mg)), ((A 2), .inl (cy 0, 672, .inl mkept)), ((A 3), .inl (cy 0, 672, .inl mspare)), ((A 4), .inl (cy 0, 672, .inl mtrial)), ((A 5), .inl (cy 0, 5376, .inl mpast)), ((A 6), .inl (cy 0, 6, .inl mreport)), ((A 7), .inl (cy 0, 5, .inl mpart)), ((A 8), .inl (cy 0, 5, .inl mcome)), ((A 9), .inl (cy 0, 60, .inl morder)), ((A 10), .inl (cy 0, 80, .inl mtext)), ((A 11), .inl (cy 0, 200, .inl mtold)), ((A 12), .inl (cy 0, 672, .inl mahead))]) 0 0 := E
  unfold wp_X9_thrown at hw
  refine g_aload_n K 0 dX9_thrown_0 rfl ?_
  refine g_get K (C := RX9) (T := TX9) (N := 22) 0 9 in_X9_thrown_X9 (by decide +kernel) rfl rfl (by decide) rfl dX9_thrown_1 ?_
  exact g_zret K E Er mthrown hw rfl rfl rfl (Nat.le_refl _) (Nat.le_refl _) dX9_thrown_4

def wp_X9_fails (p0 : Int32) (post : (Int32 × Int32) → Prop) : Prop := post (0, p0)
theorem in_X9_fails_X9 : ∀ w ∈ u_ws RX9 TX9 22, w ∈ wsX9_fails := by decide +kernel
set_option maxRecDepth 100000 in
set_option maxHeartbeats 4000000 in
theorem c_X9_fails (l : Launch) (D : va_G) (cy : Nat → ClassId) (sd : xSd) (A : Nat → Nat) (mg : XRow) (mkept : XRow) (mspare : XRow) (mtrial : XRow) (mpast : XRow) (mreport : XRow) (mpart : XRow) (mcome : XRow) (morder : XRow) (mtext : XRow) (mtold : XRow) (mahead : XRow) (mhasKept : Int32) (mpasts : Int32) (mreports : Int32) (mthrown : Int32) (mordering : Int32) (mdetail : Int32) (mlength : Int32) (mspot : Int32) (mnumber : Int32) (mtolds : Int32) (p0 : Int32) {post : (Int32 × Int32) → Prop} (hw : wp_X9_fails p0 post) : Ctr l D (xTys cy) sd yX9_fails wsX9_fails ({ frames := 0, cells := 0, slots := 0, locals := 0 } : Room) [.ref (A 0), .int p0] (fun u : Int32 × Int32 => some (.int u.1)) [((A 0), .inr (10, [.ref (A 1), .ref (A 2), .ref (A 3), .ref (A 4), .int mhasKept, .ref (A 5), .int mpasts, .ref (A 6), .int mreports, .int mthrown, .ref (A 7), .ref (A 8), .ref (A 9), .int mordering, .int mdetail, .ref (A 10), .int mlength, .int mspot, .int mnumber, .ref (A 11), .int mtolds, .ref (A 12)])), ((A 1), .inl (cy 0, 672, .inl mg)), ((A 2), .inl (cy 0, 672, .inl mkept)), ((A 3), .inl (cy 0, 672, .inl mspare)), ((A 4), .inl (cy 0, 672, .inl mtrial)), ((A 5), .inl (cy 0, 5376, .inl mpast)), ((A 6), .inl (cy 0, 6, .inl mreport)), ((A 7), .inl (cy 0, 5, .inl mpart)), ((A 8), .inl (cy 0, 5, .inl mcome)), ((A 9), .inl (cy 0, 60, .inl morder)), ((A 10), .inl (cy 0, 80, .inl mtext)), ((A 11), .inl (cy 0, 200, .inl mtold)), ((A 12), .inl (cy 0, 672, .inl mahead))] (fun u => [((A 0), .inr (10, [.ref (A 1), .ref (A 2), .ref (A 3), .ref (A 4), .int mhasKept, .ref (A 5), .int mpasts, .ref (A 6), .int mreports, .int u.2, .ref (A 7), .ref (A 8), .ref (A 9), .int mordering, .int mdetail, .ref (A 10), .int mlength, .int mspot, .int mnumber, .ref (A 11), .int mtolds, .ref (A 12)])), ((A 1), .inl (cy 0, 672, .inl mg)), ((A 2), .inl (cy 0, 672, .inl mkept)), ((A 3), .inl (cy 0, 672, .inl mspare)), ((A 4), .inl (cy 0, 672, .inl mtrial)), ((A 5), .inl (cy 0, 5376, .inl mpast)), ((A 6), .inl (cy 0, 6, .inl mreport)), ((A 7), .inl (cy 0, 5, .inl mpart)), ((A 8), .inl (cy 0, 5, .inl mcome)), ((A 9), .inl (cy 0, 60, .inl morder)), ((A 10), .inl (cy 0, 80, .inl mtext)), ((A 11), .inl (cy 0, 200, .inl mtold)), ((A 12), .inl (cy 0, 672, .inl mahead))]) post := by
  refine Ctr.of (cc := cX9_fails) (maxL := 2) (ret := (some .int)) (lv0 := [(0, .ref (A 0)), (1, .int p0)]) (by decide) rfl (Nat.le_of_ble_eq_true rfl) rfl ?_
  intro X El hR Er Enm ED E En K
  have K : Cx X cX9_fails RX9 wsX9_fails (xTys cy) sd := K
  have E : X.2.2.2.2.2.2.2.2.2.2.1 = xMQ X (fun u : Int32 × Int32 => some (.int u.1)) post (fun u => [((A 0), .inr (10, [.ref (A 1), .ref (A 2), .ref (A 3), .ref (A 4), .int mhasKept, .ref (A 5), .int mpasts, .ref (A 6), .int mreports, .int u.2, .ref (A 7), .ref (A 8), .ref (A 9), .int mordering, .int mdetail, .ref (A 10), .int mlength, .int mspot, .int mnumber, .ref (A 11), .int mtolds, .ref (A 12)])), ((A 1), .inl (cy 0, 672, .inl mg)), ((A 2), .inl (cy 0, 672, .inl mkept)), ((A 3), .inl (cy 0, 672, .inl mspare)), ((A 4), .inl (cy 0, 672, .inl mtrial)), ((A 5), .inl (cy 0, 5376, .inl mpast)), ((A 6), .inl (cy 0, 6, .inl mreport)), ((A 7), .inl (cy 0, 5, .inl mpart)), ((A 8), .inl (cy 0, 5, .inl mcome)), ((A 9), .inl (cy 0, 60, .inl morder)), ((A 10), .inl (cy 0, 80, .inl mtext)), ((A 11), .inl (cy 0, 200, .inl mtold)), ((A 12), .inl (cy 0, 672, .inl mahead))]) 0 0 := E
  unfold wp_X9_fails at hw
  refine g_aload_n K 0 dX9_fails_0 rfl ?_
  refine g_iload_n K 1 dX9_fails_1 rfl ?_
  refine g_put (ty := .int) (ws' := [((A 0), .inr (10, [.ref (A 1), .ref (A 2), .ref (A 3), .ref (A 4), .int mhasKept, .ref (A 5), .int mpasts, .ref (A 6), .int mreports, .int p0, .ref (A 7), .ref (A 8), .ref (A 9), .int mordering, .int mdetail, .ref (A 10), .int mlength, .int mspot, .int mnumber, .ref (A 11), .int mtolds, .ref (A 12)])), ((A 1), .inl (cy 0, 672, .inl mg)), ((A 2), .inl (cy 0, 672, .inl mkept)), ((A 3), .inl (cy 0, 672, .inl mspare)), ((A 4), .inl (cy 0, 672, .inl mtrial)), ((A 5), .inl (cy 0, 5376, .inl mpast)), ((A 6), .inl (cy 0, 6, .inl mreport)), ((A 7), .inl (cy 0, 5, .inl mpart)), ((A 8), .inl (cy 0, 5, .inl mcome)), ((A 9), .inl (cy 0, 60, .inl morder)), ((A 10), .inl (cy 0, 80, .inl mtext)), ((A 11), .inl (cy 0, 200, .inl mtold)), ((A 12), .inl (cy 0, 672, .inl mahead))]) K (C := RX9) (T := TX9) (N := 22) 0 9 in_X9_fails_X9 tyX9 tyX9_ok nmX9 (by decide +kernel) rfl rfl (by decide) rfl (by decide +kernel) rfl rfl (Nat.le_of_ble_eq_true rfl) rfl dX9_fails_2 ?_
  refine g_iconst (v := 0) K dX9_fails_5 rfl ?_
  exact g_zret K E Er (0, p0) hw rfl rfl rfl (Nat.le_refl _) (Nat.le_refl _) dX9_fails_6

def wp_X9_in (p0 : Int32) (p1 : Int32) (p2 : Int32) (post : Bool → Prop) : Prop := (p0 < p1 → (post false)) ∧ (¬ p0 < p1 → ((p2 < p0 → (post false)) ∧ (¬ p2 < p0 → (post true))))
set_option maxRecDepth 100000 in
set_option maxHeartbeats 4000000 in
theorem c_X9_in (l : Launch) (D : va_G) (cy : Nat → ClassId) (sd : xSd)  (p0 : Int32) (p1 : Int32) (p2 : Int32) {post : Bool → Prop} (hw : wp_X9_in p0 p1 p2 post) : Ctr l D (xTys cy) sd yX9_in wsX9_in ({ frames := 0, cells := 0, slots := 0, locals := 0 } : Room) [.int p0, .int p1, .int p2] (fun u : Bool => some (.int (bI u))) [] (fun _ => []) post := by
  refine Ctr.of (cc := cX9_in) (maxL := 3) (ret := (some .boolean)) (lv0 := [(0, .int p0), (1, .int p1), (2, .int p2)]) (by decide) rfl (Nat.le_of_ble_eq_true rfl) rfl ?_
  intro X El hR Er Enm ED E En K
  have K : Cx X cX9_in RX9 wsX9_in (xTys cy) sd := K
  have E : X.2.2.2.2.2.2.2.2.2.2.1 = xMQ X (fun u : Bool => some (.int (bI u))) post (fun _ => []) 0 0 := E
  unfold wp_X9_in at hw
  refine g_iload_n K 0 dX9_in_0 rfl ?_
  refine g_iload_n K 1 dX9_in_1 rfl ?_
  refine g_icmp_lt (tgt := 14) K dX9_in_2 (by decide) (fun hc => ?_) (fun hc => ?_)
  · replace hw := hw.1 hc
    refine g_iconst (v := 0) K dX9_in_14 rfl ?_
    exact g_zret K E Er false hw rfl rfl rfl (Nat.le_refl _) (Nat.le_refl _) dX9_in_15
  · replace hw := hw.2 hc
    refine g_iload_n K 0 dX9_in_5 rfl ?_
    refine g_iload_n K 2 dX9_in_6 rfl ?_
    refine g_icmp_gt (tgt := 14) K dX9_in_7 (by decide) (fun hc => ?_) (fun hc => ?_)
    · replace hw := hw.1 hc
      refine g_iconst (v := 0) K dX9_in_14 rfl ?_
      exact g_zret K E Er false hw rfl rfl rfl (Nat.le_refl _) (Nat.le_refl _) dX9_in_15
    · replace hw := hw.2 hc
      refine g_iconst (v := 1) K dX9_in_10 rfl ?_
      refine g_goto (tgt := 15) K dX9_in_11 (by decide) ?_
      exact g_zret K E Er true hw rfl rfl rfl (Nat.le_refl _) (Nat.le_refl _) dX9_in_15

def wp_X9_isMaterial (p0 : Int32) (post : Bool → Prop) : Prop := wp_X9_in p0 0 4 (fun u1 : Bool => post u1)
set_option maxRecDepth 100000 in
set_option maxHeartbeats 4000000 in
theorem c_X9_isMaterial (l : Launch) (D : va_G) (cy : Nat → ClassId) (sd : xSd)  (p0 : Int32) {post : Bool → Prop} (hw : wp_X9_isMaterial p0 post) : Ctr l D (xTys cy) sd yX9_isMaterial wsX9_isMaterial ({ frames := 1, cells := 0, slots := 0, locals := 22 } : Room) [.int p0] (fun u : Bool => some (.int (bI u))) [] (fun _ => []) post := by
  refine Ctr.of (cc := cX9_isMaterial) (maxL := 1) (ret := (some .boolean)) (lv0 := [(0, .int p0)]) (by decide) rfl (Nat.le_of_ble_eq_true rfl) rfl ?_
  intro X El hR Er Enm ED E En K
  have K : Cx X cX9_isMaterial RX9 wsX9_isMaterial (xTys cy) sd := K
  have E : X.2.2.2.2.2.2.2.2.2.2.1 = xMQ X (fun u : Bool => some (.int (bI u))) post (fun _ => []) 0 0 := E
  unfold wp_X9_isMaterial at hw
  refine g_iload_n K 0 dX9_isMaterial_0 rfl ?_
  refine g_iconst (v := 0) K dX9_isMaterial_1 rfl ?_
  refine g_iconst (v := 4) K dX9_isMaterial_2 rfl ?_
  refine g_callSr (st' := fun u1 => [.int (bI u1)]) K hR [.int p0, .int 0, .int 4] [] (c_X9_in X.2.1 (gxD X) cy sd p0 0 4 hw) gX9_isMaterial_X9_in rfl yok_X9_in rfl (by decide) rfl (Nat.le_of_ble_eq_true rfl) dX9_isMaterial_3 [] rfl (by decide) (fun _ => rfl) ⟨rfl, rfl⟩ (fun u1 hw => ?_)
  exact g_zret K E Er u1 hw rfl (bI_narrow _) rfl (Nat.le_refl _) (Nat.le_refl _) dX9_isMaterial_6

def wp_X9_isMachine (mg : XRow) (p0 : Int32) (post : Bool → Prop) : Prop := vp_in 0 672 ∧ (wp_X9_in p0 0 ((mg ((0 : Int32).toNatClampNeg)) - 1) (fun u1 : Bool => post u1))
theorem in_X9_isMachine_X9 : ∀ w ∈ u_ws RX9 TX9 22, w ∈ wsX9_isMachine := by decide +kernel
set_option maxRecDepth 100000 in
set_option maxHeartbeats 4000000 in
theorem c_X9_isMachine (l : Launch) (D : va_G) (cy : Nat → ClassId) (sd : xSd) (A : Nat → Nat) (mg : XRow) (mkept : XRow) (mspare : XRow) (mtrial : XRow) (mpast : XRow) (mreport : XRow) (mpart : XRow) (mcome : XRow) (morder : XRow) (mtext : XRow) (mtold : XRow) (mahead : XRow) (mhasKept : Int32) (mpasts : Int32) (mreports : Int32) (mthrown : Int32) (mordering : Int32) (mdetail : Int32) (mlength : Int32) (mspot : Int32) (mnumber : Int32) (mtolds : Int32) (p0 : Int32) {post : Bool → Prop} (hw : wp_X9_isMachine mg p0 post) : Ctr l D (xTys cy) sd yX9_isMachine wsX9_isMachine ({ frames := 1, cells := 0, slots := 0, locals := 22 } : Room) [.ref (A 0), .int p0] (fun u : Bool => some (.int (bI u))) [((A 0), .inr (10, [.ref (A 1), .ref (A 2), .ref (A 3), .ref (A 4), .int mhasKept, .ref (A 5), .int mpasts, .ref (A 6), .int mreports, .int mthrown, .ref (A 7), .ref (A 8), .ref (A 9), .int mordering, .int mdetail, .ref (A 10), .int mlength, .int mspot, .int mnumber, .ref (A 11), .int mtolds, .ref (A 12)])), ((A 1), .inl (cy 0, 672, .inl mg)), ((A 2), .inl (cy 0, 672, .inl mkept)), ((A 3), .inl (cy 0, 672, .inl mspare)), ((A 4), .inl (cy 0, 672, .inl mtrial)), ((A 5), .inl (cy 0, 5376, .inl mpast)), ((A 6), .inl (cy 0, 6, .inl mreport)), ((A 7), .inl (cy 0, 5, .inl mpart)), ((A 8), .inl (cy 0, 5, .inl mcome)), ((A 9), .inl (cy 0, 60, .inl morder)), ((A 10), .inl (cy 0, 80, .inl mtext)), ((A 11), .inl (cy 0, 200, .inl mtold)), ((A 12), .inl (cy 0, 672, .inl mahead))] (fun _ => [((A 0), .inr (10, [.ref (A 1), .ref (A 2), .ref (A 3), .ref (A 4), .int mhasKept, .ref (A 5), .int mpasts, .ref (A 6), .int mreports, .int mthrown, .ref (A 7), .ref (A 8), .ref (A 9), .int mordering, .int mdetail, .ref (A 10), .int mlength, .int mspot, .int mnumber, .ref (A 11), .int mtolds, .ref (A 12)])), ((A 1), .inl (cy 0, 672, .inl mg)), ((A 2), .inl (cy 0, 672, .inl mkept)), ((A 3), .inl (cy 0, 672, .inl mspare)), ((A 4), .inl (cy 0, 672, .inl mtrial)), ((A 5), .inl (cy 0, 5376, .inl mpast)), ((A 6), .inl (cy 0, 6, .inl mreport)), ((A 7), .inl (cy 0, 5, .inl mpart)), ((A 8), .inl (cy 0, 5, .inl mcome)), ((A 9), .inl (cy 0, 60, .inl morder)), ((A 10), .inl (cy 0, 80, .inl mtext)), ((A 11), .inl (cy 0, 200, .inl mtold)), ((A 12), .inl (cy 0, 672, .inl mahead))]) post := by
  refine Ctr.of (cc := cX9_isMachine) (maxL := 2) (ret := (some .boolean)) (lv0 := [(0, .ref (A 0)), (1, .int p0)]) (by decide) rfl (Nat.le_of_ble_eq_true rfl) rfl ?_
  intro X El hR Er Enm ED E En K
  have K : Cx X cX9_isMachine RX9 wsX9_isMachine (xTys cy) sd := K
  have E : X.2.2.2.2.2.2.2.2.2.2.1 = xMQ X (fun u : Bool => some (.int (bI u))) post (fun _ => [((A 0), .inr (10, [.ref (A 1), .ref (A 2), .ref (A 3), .ref (A 4), .int mhasKept, .ref (A 5), .int mpasts, .ref (A 6), .int mreports, .int mthrown, .ref (A 7), .ref (A 8), .ref (A 9), .int mordering, .int mdetail, .ref (A 10), .int mlength, .int mspot, .int mnumber, .ref (A 11), .int mtolds, .ref (A 12)])), ((A 1), .inl (cy 0, 672, .inl mg)), ((A 2), .inl (cy 0, 672, .inl mkept)), ((A 3), .inl (cy 0, 672, .inl mspare)), ((A 4), .inl (cy 0, 672, .inl mtrial)), ((A 5), .inl (cy 0, 5376, .inl mpast)), ((A 6), .inl (cy 0, 6, .inl mreport)), ((A 7), .inl (cy 0, 5, .inl mpart)), ((A 8), .inl (cy 0, 5, .inl mcome)), ((A 9), .inl (cy 0, 60, .inl morder)), ((A 10), .inl (cy 0, 80, .inl mtext)), ((A 11), .inl (cy 0, 200, .inl mtold)), ((A 12), .inl (cy 0, 672, .inl mahead))]) 0 0 := E
  unfold wp_X9_isMachine at hw
  refine g_iload_n K 1 dX9_isMachine_0 rfl ?_
  refine g_iconst (v := 0) K dX9_isMachine_1 rfl ?_
  refine g_aload_n K 0 dX9_isMachine_2 rfl ?_
  refine g_get K (C := RX9) (T := TX9) (N := 22) 0 0 in_X9_isMachine_X9 (by decide +kernel) rfl rfl (by decide) rfl dX9_isMachine_3 ?_
  refine g_iconst (v := 0) K dX9_isMachine_6 rfl ?_
  refine g_iald K 1 0 rfl rfl hw.1 dX9_isMachine_7 ?_
  replace hw := hw.2
  refine g_iconst (v := 1) K dX9_isMachine_8 rfl ?_
  refine g_isub K dX9_isMachine_9 ?_
  refine g_callSr (st' := fun u1 => [.int (bI u1)]) K hR [.int p0, .int 0, .int ((mg ((0 : Int32).toNatClampNeg)) - 1)] [] (c_X9_in X.2.1 (gxD X) cy sd p0 0 ((mg ((0 : Int32).toNatClampNeg)) - 1) hw) gX9_isMachine_X9_in rfl yok_X9_in rfl (by decide) rfl (Nat.le_of_ble_eq_true rfl) dX9_isMachine_10 [] rfl (by decide) (fun _ => rfl) ⟨rfl, rfl⟩ (fun u1 hw => ?_)
  exact g_zret K E Er u1 hw rfl (bI_narrow _) rfl (Nat.le_refl _) (Nat.le_refl _) dX9_isMachine_13

def wp_X9_machineAt (p0 : Int32) (p1 : Int32) (post : Int32 → Prop) : Prop := post ((26 + (11 * p0)) + p1)
set_option maxRecDepth 100000 in
set_option maxHeartbeats 4000000 in
theorem c_X9_machineAt (l : Launch) (D : va_G) (cy : Nat → ClassId) (sd : xSd)  (p0 : Int32) (p1 : Int32) {post : Int32 → Prop} (hw : wp_X9_machineAt p0 p1 post) : Ctr l D (xTys cy) sd yX9_machineAt wsX9_machineAt ({ frames := 0, cells := 0, slots := 0, locals := 0 } : Room) [.int p0, .int p1] (fun u : Int32 => some (.int u)) [] (fun _ => []) post := by
  refine Ctr.of (cc := cX9_machineAt) (maxL := 2) (ret := (some .int)) (lv0 := [(0, .int p0), (1, .int p1)]) (by decide) rfl (Nat.le_of_ble_eq_true rfl) rfl ?_
  intro X El hR Er Enm ED E En K
  have K : Cx X cX9_machineAt RX9 wsX9_machineAt (xTys cy) sd := K
  have E : X.2.2.2.2.2.2.2.2.2.2.1 = xMQ X (fun u : Int32 => some (.int u)) post (fun _ => []) 0 0 := E
  unfold wp_X9_machineAt at hw
  refine g_bipush (v := 26) K dX9_machineAt_0 rfl ?_
  refine g_bipush (v := 11) K dX9_machineAt_2 rfl ?_
  refine g_iload_n K 0 dX9_machineAt_4 rfl ?_
  refine g_imul K dX9_machineAt_5 ?_
  refine g_iadd K dX9_machineAt_6 ?_
  refine g_iload_n K 1 dX9_machineAt_7 rfl ?_
  refine g_iadd K dX9_machineAt_8 ?_
  exact g_zret K E Er ((26 + (11 * p0)) + p1) hw rfl rfl rfl (Nat.le_refl _) (Nat.le_refl _) dX9_machineAt_9

def wp_X9_contractAt (p0 : Int32) (p1 : Int32) (post : Int32 → Prop) : Prop := post ((92 + (5 * p0)) + p1)
set_option maxRecDepth 100000 in
set_option maxHeartbeats 4000000 in
theorem c_X9_contractAt (l : Launch) (D : va_G) (cy : Nat → ClassId) (sd : xSd)  (p0 : Int32) (p1 : Int32) {post : Int32 → Prop} (hw : wp_X9_contractAt p0 p1 post) : Ctr l D (xTys cy) sd yX9_contractAt wsX9_contractAt ({ frames := 0, cells := 0, slots := 0, locals := 0 } : Room) [.int p0, .int p1] (fun u : Int32 => some (.int u)) [] (fun _ => []) post := by
  refine Ctr.of (cc := cX9_contractAt) (maxL := 2) (ret := (some .int)) (lv0 := [(0, .int p0), (1, .int p1)]) (by decide) rfl (Nat.le_of_ble_eq_true rfl) rfl ?_
  intro X El hR Er Enm ED E En K
  have K : Cx X cX9_contractAt RX9 wsX9_contractAt (xTys cy) sd := K
  have E : X.2.2.2.2.2.2.2.2.2.2.1 = xMQ X (fun u : Int32 => some (.int u)) post (fun _ => []) 0 0 := E
  unfold wp_X9_contractAt at hw
  refine g_bipush (v := 92) K dX9_contractAt_0 rfl ?_
  refine g_iconst (v := 5) K dX9_contractAt_2 rfl ?_
  refine g_iload_n K 0 dX9_contractAt_3 rfl ?_
  refine g_imul K dX9_contractAt_4 ?_
  refine g_iadd K dX9_contractAt_5 ?_
  refine g_iload_n K 1 dX9_contractAt_6 rfl ?_
  refine g_iadd K dX9_contractAt_7 ?_
  exact g_zret K E Er ((92 + (5 * p0)) + p1) hw rfl rfl rfl (Nat.le_refl _) (Nat.le_refl _) dX9_contractAt_8

def wp_X9_baleAt (p0 : Int32) (p1 : Int32) (post : Int32 → Prop) : Prop := post ((132 + (9 * p0)) + p1)
set_option maxRecDepth 100000 in
set_option maxHeartbeats 4000000 in
theorem c_X9_baleAt (l : Launch) (D : va_G) (cy : Nat → ClassId) (sd : xSd)  (p0 : Int32) (p1 : Int32) {post : Int32 → Prop} (hw : wp_X9_baleAt p0 p1 post) : Ctr l D (xTys cy) sd yX9_baleAt wsX9_baleAt ({ frames := 0, cells := 0, slots := 0, locals := 0 } : Room) [.int p0, .int p1] (fun u : Int32 => some (.int u)) [] (fun _ => []) post := by
  refine Ctr.of (cc := cX9_baleAt) (maxL := 2) (ret := (some .int)) (lv0 := [(0, .int p0), (1, .int p1)]) (by decide) rfl (Nat.le_of_ble_eq_true rfl) rfl ?_
  intro X El hR Er Enm ED E En K
  have K : Cx X cX9_baleAt RX9 wsX9_baleAt (xTys cy) sd := K
  have E : X.2.2.2.2.2.2.2.2.2.2.1 = xMQ X (fun u : Int32 => some (.int u)) post (fun _ => []) 0 0 := E
  unfold wp_X9_baleAt at hw
  refine g_sipush (v := 132) K dX9_baleAt_0 rfl ?_
  refine g_bipush (v := 9) K dX9_baleAt_3 rfl ?_
  refine g_iload_n K 0 dX9_baleAt_5 rfl ?_
  refine g_imul K dX9_baleAt_6 ?_
  refine g_iadd K dX9_baleAt_7 ?_
  refine g_iload_n K 1 dX9_baleAt_8 rfl ?_
  refine g_iadd K dX9_baleAt_9 ?_
  exact g_zret K E Er ((132 + (9 * p0)) + p1) hw rfl rfl rfl (Nat.le_refl _) (Nat.le_refl _) dX9_baleAt_10

def wp_X9_copies_L3 (lnb : Nat) (fb : XRow) (lnc : Nat) (p0 : Int32) (p1 : Int32) (k3_29 : Int32 → XRow → Prop) : Nat → Int32 → XRow → Prop
  | 0, _, _ => False
  | fu + 1, v1, v2 => (672 ≤ v1 → (k3_29 v1 v2)) ∧ (¬ 672 ≤ v1 → (vp_in (p0 + v1) lnb ∧ (vp_in (p1 + v1) lnc ∧ (∀ x3 : Int32, x3 = v1 + 1 → (wp_X9_copies_L3 lnb fb lnc p0 p1 k3_29 fu x3 (upd v2 (p1 + v1).toNatClampNeg (fb (p0 + v1).toNatClampNeg)))))))
def wp_X9_copies (lnb : Nat) (fb : XRow) (lnc : Nat) (fc : XRow) (p0 : Int32) (p1 : Int32) (post : XRow → Prop) : Prop := ∃ fl, wp_X9_copies_L3 lnb fb lnc p0 p1 (fun (v4 : Int32) (v5 : XRow) => post v5) fl 0 fc
set_option maxRecDepth 100000 in
set_option maxHeartbeats 4000000 in
theorem c_X9_copies (l : Launch) (D : va_G) (cy : Nat → ClassId) (sd : xSd) (b0 : Nat) (c0 : Nat) (lnb : Nat) (fb : XRow) (lnc : Nat) (fc : XRow) (p0 : Int32) (p1 : Int32) {post : XRow → Prop} (hw : wp_X9_copies lnb fb lnc fc p0 p1 post) : Ctr l D (xTys cy) sd yX9_copies wsX9_copies ({ frames := 0, cells := 0, slots := 0, locals := 0 } : Room) [.ref b0, .int p0, .ref c0, .int p1] (fun u : XRow => none) [(b0, .inl (cy 0, lnb, .inl fb)), (c0, .inl (cy 0, lnc, .inl fc))] (fun u => [(b0, .inl (cy 0, lnb, .inl fb)), (c0, .inl (cy 0, lnc, .inl u))]) post := by
  refine Ctr.of (cc := cX9_copies) (maxL := 5) (ret := none) (lv0 := [(0, .ref b0), (1, .int p0), (2, .ref c0), (3, .int p1)]) (by decide) rfl (Nat.le_of_ble_eq_true rfl) rfl ?_
  intro X El hR Er Enm ED E En K
  have K : Cx X cX9_copies RX9 wsX9_copies (xTys cy) sd := K
  have E : X.2.2.2.2.2.2.2.2.2.2.1 = xMQ X (fun u : XRow => none) post (fun u => [(b0, .inl (cy 0, lnb, .inl fb)), (c0, .inl (cy 0, lnc, .inl u))]) 0 0 := E
  unfold wp_X9_copies at hw
  refine g_iconst (v := 0) K dX9_copies_0 rfl ?_
  refine g_istore (lv' := [(4, .int 0), (0, .ref b0), (1, .int p0), (2, .ref c0), (3, .int p1)]) K dX9_copies_1 (by rw [En]; decide) rfl ?_
  obtain ⟨fl, hw⟩ := hw
  have key : ∀ (k3_29 : Int32 → XRow → Prop), (∀ (v1 : Int32) (v2 : XRow), k3_29 v1 v2 → Gx X 0 0 [(b0, .inl (cy 0, lnb, .inl fb)), (c0, .inl (cy 0, lnc, .inl v2))] [(4, .int v1), (0, .ref b0), (1, .int p0), (2, .ref c0), (3, .int p1)] 29 []) → ∀ (n : Nat) (v1 : Int32) (v2 : XRow), wp_X9_copies_L3 lnb fb lnc p0 p1 k3_29 n v1 v2 → Gx X 0 0 [(b0, .inl (cy 0, lnb, .inl fb)), (c0, .inl (cy 0, lnc, .inl v2))] [(4, .int v1), (0, .ref b0), (1, .int p0), (2, .ref c0), (3, .int p1)] 3 [] := by
    intro k3_29 hx29 n
    induction n with
    | zero => intro v1 v2 hw; exact hw.elim
    | succ n ih =>
      intro v1 v2 hw
      refine g_iload K 0 dX9_copies_3 rfl ?_
      refine g_sipush (v := 672) K dX9_copies_5 rfl ?_
      refine g_icmp_ge (tgt := 29) K dX9_copies_8 (by decide) (fun hc => ?_) (fun hc => ?_)
      · replace hw := hw.1 hc
        exact hx29 _ _ hw
      · replace hw := hw.2 hc
        refine g_aload_n K 3 dX9_copies_11 rfl ?_
        refine g_iload_n K 4 dX9_copies_12 rfl ?_
        refine g_iload K 0 dX9_copies_13 rfl ?_
        refine g_iadd K dX9_copies_15 ?_
        refine g_aload_n K 1 dX9_copies_16 rfl ?_
        refine g_iload_n K 2 dX9_copies_17 rfl ?_
        refine g_iload K 0 dX9_copies_18 rfl ?_
        refine g_iadd K dX9_copies_20 ?_
        refine g_iald K 0 0 rfl rfl hw.1 dX9_copies_21 ?_
        replace hw := hw.2
        refine g_iast (ws' := [(b0, .inl (cy 0, lnb, .inl fb)), (c0, .inl (cy 0, lnc, .inl (upd v2 (p1 + v1).toNatClampNeg (fb (p0 + v1).toNatClampNeg))))]) K 1 0 rfl rfl hw.1 rfl dX9_copies_22 ?_
        replace hw := hw.2
        obtain ⟨x3, ex3⟩ : ∃ z : Int32, z = v1 + 1 := ⟨_, rfl⟩
        replace hw := hw x3 ex3
        refine g_iinc (v := x3) (lv' := [(4, .int x3), (0, .ref b0), (1, .int p0), (2, .ref c0), (3, .int p1)]) K 0 dX9_copies_23 rfl (by rw [ex3]; rfl) (by rw [En]; decide) rfl ?_
        refine g_goto (tgt := 3) K dX9_copies_26 (by decide) ?_
        exact ih _ _ hw
  refine key _ (fun v4 v5 hw => ?_) fl _ _ hw
  exact g_vret K E Er v5 hw rfl rfl (Nat.le_refl _) (Nat.le_refl _) dX9_copies_29

def wp_X9_sum_L4 (mg : XRow) (p0 : Int32) (k4_26 : Int32 → Int32 → Prop) : Nat → Int32 → Int32 → Prop
  | 0, _, _ => False
  | fu + 1, v1, v2 => (5 ≤ v1 → (k4_26 v1 v2)) ∧ (¬ 5 ≤ v1 → (vp_in (p0 + v1) 672 ∧ (∀ x3 : Int32, x3 = v2 + (mg (p0 + v1).toNatClampNeg) → (∀ x4 : Int32, x4 = v1 + 1 → (wp_X9_sum_L4 mg p0 k4_26 fu x4 x3)))))
def wp_X9_sum (mg : XRow) (p0 : Int32) (post : Int32 → Prop) : Prop := ∃ fl, wp_X9_sum_L4 mg p0 (fun (v5 : Int32) (v6 : Int32) => post v6) fl 0 0
theorem in_X9_sum_X9 : ∀ w ∈ u_ws RX9 TX9 22, w ∈ wsX9_sum := by decide +kernel
set_option maxRecDepth 100000 in
set_option maxHeartbeats 4000000 in
theorem c_X9_sum (l : Launch) (D : va_G) (cy : Nat → ClassId) (sd : xSd) (A : Nat → Nat) (mg : XRow) (mkept : XRow) (mspare : XRow) (mtrial : XRow) (mpast : XRow) (mreport : XRow) (mpart : XRow) (mcome : XRow) (morder : XRow) (mtext : XRow) (mtold : XRow) (mahead : XRow) (mhasKept : Int32) (mpasts : Int32) (mreports : Int32) (mthrown : Int32) (mordering : Int32) (mdetail : Int32) (mlength : Int32) (mspot : Int32) (mnumber : Int32) (mtolds : Int32) (p0 : Int32) {post : Int32 → Prop} (hw : wp_X9_sum mg p0 post) : Ctr l D (xTys cy) sd yX9_sum wsX9_sum ({ frames := 0, cells := 0, slots := 0, locals := 0 } : Room) [.ref (A 0), .int p0] (fun u : Int32 => some (.int u)) [((A 0), .inr (10, [.ref (A 1), .ref (A 2), .ref (A 3), .ref (A 4), .int mhasKept, .ref (A 5), .int mpasts, .ref (A 6), .int mreports, .int mthrown, .ref (A 7), .ref (A 8), .ref (A 9), .int mordering, .int mdetail, .ref (A 10), .int mlength, .int mspot, .int mnumber, .ref (A 11), .int mtolds, .ref (A 12)])), ((A 1), .inl (cy 0, 672, .inl mg)), ((A 2), .inl (cy 0, 672, .inl mkept)), ((A 3), .inl (cy 0, 672, .inl mspare)), ((A 4), .inl (cy 0, 672, .inl mtrial)), ((A 5), .inl (cy 0, 5376, .inl mpast)), ((A 6), .inl (cy 0, 6, .inl mreport)), ((A 7), .inl (cy 0, 5, .inl mpart)), ((A 8), .inl (cy 0, 5, .inl mcome)), ((A 9), .inl (cy 0, 60, .inl morder)), ((A 10), .inl (cy 0, 80, .inl mtext)), ((A 11), .inl (cy 0, 200, .inl mtold)), ((A 12), .inl (cy 0, 672, .inl mahead))] (fun _ => [((A 0), .inr (10, [.ref (A 1), .ref (A 2), .ref (A 3), .ref (A 4), .int mhasKept, .ref (A 5), .int mpasts, .ref (A 6), .int mreports, .int mthrown, .ref (A 7), .ref (A 8), .ref (A 9), .int mordering, .int mdetail, .ref (A 10), .int mlength, .int mspot, .int mnumber, .ref (A 11), .int mtolds, .ref (A 12)])), ((A 1), .inl (cy 0, 672, .inl mg)), ((A 2), .inl (cy 0, 672, .inl mkept)), ((A 3), .inl (cy 0, 672, .inl mspare)), ((A 4), .inl (cy 0, 672, .inl mtrial)), ((A 5), .inl (cy 0, 5376, .inl mpast)), ((A 6), .inl (cy 0, 6, .inl mreport)), ((A 7), .inl (cy 0, 5, .inl mpart)), ((A 8), .inl (cy 0, 5, .inl mcome)), ((A 9), .inl (cy 0, 60, .inl morder)), ((A 10), .inl (cy 0, 80, .inl mtext)), ((A 11), .inl (cy 0, 200, .inl mtold)), ((A 12), .inl (cy 0, 672, .inl mahead))]) post := by
  refine Ctr.of (cc := cX9_sum) (maxL := 4) (ret := (some .int)) (lv0 := [(0, .ref (A 0)), (1, .int p0)]) (by decide) rfl (Nat.le_of_ble_eq_true rfl) rfl ?_
  intro X El hR Er Enm ED E En K
  have K : Cx X cX9_sum RX9 wsX9_sum (xTys cy) sd := K
  have E : X.2.2.2.2.2.2.2.2.2.2.1 = xMQ X (fun u : Int32 => some (.int u)) post (fun _ => [((A 0), .inr (10, [.ref (A 1), .ref (A 2), .ref (A 3), .ref (A 4), .int mhasKept, .ref (A 5), .int mpasts, .ref (A 6), .int mreports, .int mthrown, .ref (A 7), .ref (A 8), .ref (A 9), .int mordering, .int mdetail, .ref (A 10), .int mlength, .int mspot, .int mnumber, .ref (A 11), .int mtolds, .ref (A 12)])), ((A 1), .inl (cy 0, 672, .inl mg)), ((A 2), .inl (cy 0, 672, .inl mkept)), ((A 3), .inl (cy 0, 672, .inl mspare)), ((A 4), .inl (cy 0, 672, .inl mtrial)), ((A 5), .inl (cy 0, 5376, .inl mpast)), ((A 6), .inl (cy 0, 6, .inl mreport)), ((A 7), .inl (cy 0, 5, .inl mpart)), ((A 8), .inl (cy 0, 5, .inl mcome)), ((A 9), .inl (cy 0, 60, .inl morder)), ((A 10), .inl (cy 0, 80, .inl mtext)), ((A 11), .inl (cy 0, 200, .inl mtold)), ((A 12), .inl (cy 0, 672, .inl mahead))]) 0 0 := E
  unfold wp_X9_sum at hw
  refine g_iconst (v := 0) K dX9_sum_0 rfl ?_
  refine g_istore_n (lv' := [(2, .int 0), (0, .ref (A 0)), (1, .int p0)]) K dX9_sum_1 rfl (by rw [En]; decide) rfl ?_
  refine g_iconst (v := 0) K dX9_sum_2 rfl ?_
  refine g_istore_n (lv' := [(3, .int 0), (2, .int 0), (0, .ref (A 0)), (1, .int p0)]) K dX9_sum_3 rfl (by rw [En]; decide) rfl ?_
  obtain ⟨fl, hw⟩ := hw
  have key : ∀ (k4_26 : Int32 → Int32 → Prop), (∀ (v1 : Int32) (v2 : Int32), k4_26 v1 v2 → Gx X 0 0 [((A 0), .inr (10, [.ref (A 1), .ref (A 2), .ref (A 3), .ref (A 4), .int mhasKept, .ref (A 5), .int mpasts, .ref (A 6), .int mreports, .int mthrown, .ref (A 7), .ref (A 8), .ref (A 9), .int mordering, .int mdetail, .ref (A 10), .int mlength, .int mspot, .int mnumber, .ref (A 11), .int mtolds, .ref (A 12)])), ((A 1), .inl (cy 0, 672, .inl mg)), ((A 2), .inl (cy 0, 672, .inl mkept)), ((A 3), .inl (cy 0, 672, .inl mspare)), ((A 4), .inl (cy 0, 672, .inl mtrial)), ((A 5), .inl (cy 0, 5376, .inl mpast)), ((A 6), .inl (cy 0, 6, .inl mreport)), ((A 7), .inl (cy 0, 5, .inl mpart)), ((A 8), .inl (cy 0, 5, .inl mcome)), ((A 9), .inl (cy 0, 60, .inl morder)), ((A 10), .inl (cy 0, 80, .inl mtext)), ((A 11), .inl (cy 0, 200, .inl mtold)), ((A 12), .inl (cy 0, 672, .inl mahead))] [(3, .int v1), (2, .int v2), (0, .ref (A 0)), (1, .int p0)] 26 []) → ∀ (n : Nat) (v1 : Int32) (v2 : Int32), wp_X9_sum_L4 mg p0 k4_26 n v1 v2 → Gx X 0 0 [((A 0), .inr (10, [.ref (A 1), .ref (A 2), .ref (A 3), .ref (A 4), .int mhasKept, .ref (A 5), .int mpasts, .ref (A 6), .int mreports, .int mthrown, .ref (A 7), .ref (A 8), .ref (A 9), .int mordering, .int mdetail, .ref (A 10), .int mlength, .int mspot, .int mnumber, .ref (A 11), .int mtolds, .ref (A 12)])), ((A 1), .inl (cy 0, 672, .inl mg)), ((A 2), .inl (cy 0, 672, .inl mkept)), ((A 3), .inl (cy 0, 672, .inl mspare)), ((A 4), .inl (cy 0, 672, .inl mtrial)), ((A 5), .inl (cy 0, 5376, .inl mpast)), ((A 6), .inl (cy 0, 6, .inl mreport)), ((A 7), .inl (cy 0, 5, .inl mpart)), ((A 8), .inl (cy 0, 5, .inl mcome)), ((A 9), .inl (cy 0, 60, .inl morder)), ((A 10), .inl (cy 0, 80, .inl mtext)), ((A 11), .inl (cy 0, 200, .inl mtold)), ((A 12), .inl (cy 0, 672, .inl mahead))] [(3, .int v1), (2, .int v2), (0, .ref (A 0)), (1, .int p0)] 4 [] := by
    intro k4_26 hx26 n
    induction n with
    | zero => intro v1 v2 hw; exact hw.elim
    | succ n ih =>
      intro v1 v2 hw
      refine g_iload_n K 0 dX9_sum_4 rfl ?_
      refine g_iconst (v := 5) K dX9_sum_5 rfl ?_
      refine g_icmp_ge (tgt := 26) K dX9_sum_6 (by decide) (fun hc => ?_) (fun hc => ?_)
      · replace hw := hw.1 hc
        exact hx26 _ _ hw
      · replace hw := hw.2 hc
        refine g_iload_n K 1 dX9_sum_9 rfl ?_
        refine g_aload_n K 2 dX9_sum_10 rfl ?_
        refine g_get K (C := RX9) (T := TX9) (N := 22) 0 0 in_X9_sum_X9 (by decide +kernel) rfl rfl (by decide) rfl dX9_sum_11 ?_
        refine g_iload_n K 3 dX9_sum_14 rfl ?_
        refine g_iload_n K 0 dX9_sum_15 rfl ?_
        refine g_iadd K dX9_sum_16 ?_
        refine g_iald K 1 0 rfl rfl hw.1 dX9_sum_17 ?_
        replace hw := hw.2
        refine g_iadd K dX9_sum_18 ?_
        refine g_topi (fun x3 ex3 => ?_)
        replace hw := hw x3 ex3
        refine g_istore_n (lv' := [(2, .int x3), (3, .int v1), (0, .ref (A 0)), (1, .int p0)]) K dX9_sum_19 rfl (by rw [En]; decide) rfl ?_
        obtain ⟨x4, ex4⟩ : ∃ z : Int32, z = v1 + 1 := ⟨_, rfl⟩
        replace hw := hw x4 ex4
        refine g_iinc (v := x4) (lv' := [(3, .int x4), (2, .int x3), (0, .ref (A 0)), (1, .int p0)]) K 1 dX9_sum_20 rfl (by rw [ex4]; rfl) (by rw [En]; decide) rfl ?_
        refine g_goto (tgt := 4) K dX9_sum_23 (by decide) ?_
        exact ih _ _ hw
  refine key _ (fun v5 v6 hw => ?_) fl _ _ hw
  refine g_iload_n K 1 dX9_sum_26 rfl ?_
  exact g_zret K E Er v6 hw rfl rfl rfl (Nat.le_refl _) (Nat.le_refl _) dX9_sum_27

def wp_X9_changes_L11  (k11_40 : Int32 → XRow → Prop) : Nat → Int32 → XRow → Prop
  | 0, _, _ => False
  | fu + 1, v3, v4 => (4704 ≤ v3 → (k11_40 v3 v4)) ∧ (¬ 4704 ≤ v3 → (vp_in (v3 + 672) 5376 ∧ (vp_in v3 5376 ∧ (∀ x5 : Int32, x5 = v3 + 1 → (wp_X9_changes_L11 k11_40 fu x5 (upd v4 (v3).toNatClampNeg (v4 (v3 + 672).toNatClampNeg)))))))
def wp_X9_changes (mpast : XRow) (mpasts : Int32) (lnb : Nat) (fb : XRow) (post : (Int32 × XRow) → Prop) : Prop := (mpasts = 8 → (∃ fl, wp_X9_changes_L11  (fun (v6 : Int32) (v7 : XRow) => ∀ x8 : Int32, x8 = mpasts - 1 → (wp_X9_copies lnb fb 5376 v7 0 (672 * x8) (fun u9 : XRow => ∀ x10 : Int32, x10 = x8 + 1 → (post (x10, u9))))) fl 0 mpast)) ∧ (¬ mpasts = 8 → (wp_X9_copies lnb fb 5376 mpast 0 (672 * mpasts) (fun u1 : XRow => ∀ x2 : Int32, x2 = mpasts + 1 → (post (x2, u1)))))
theorem in_X9_changes_X9 : ∀ w ∈ u_ws RX9 TX9 22, w ∈ wsX9_changes := by decide +kernel
set_option maxRecDepth 100000 in
set_option maxHeartbeats 4000000 in
theorem c_X9_changes (l : Launch) (D : va_G) (cy : Nat → ClassId) (sd : xSd) (A : Nat → Nat) (b0 : Nat) (mg : XRow) (mkept : XRow) (mspare : XRow) (mtrial : XRow) (mpast : XRow) (mreport : XRow) (mpart : XRow) (mcome : XRow) (morder : XRow) (mtext : XRow) (mtold : XRow) (mahead : XRow) (mhasKept : Int32) (mpasts : Int32) (mreports : Int32) (mthrown : Int32) (mordering : Int32) (mdetail : Int32) (mlength : Int32) (mspot : Int32) (mnumber : Int32) (mtolds : Int32) (lnb : Nat) (fb : XRow) {post : (Int32 × XRow) → Prop} (hw : wp_X9_changes mpast mpasts lnb fb post) : Ctr l D (xTys cy) sd yX9_changes wsX9_changes ({ frames := 1, cells := 0, slots := 0, locals := 24 } : Room) [.ref (A 0), .ref b0] (fun u : Int32 × XRow => none) [((A 0), .inr (10, [.ref (A 1), .ref (A 2), .ref (A 3), .ref (A 4), .int mhasKept, .ref (A 5), .int mpasts, .ref (A 6), .int mreports, .int mthrown, .ref (A 7), .ref (A 8), .ref (A 9), .int mordering, .int mdetail, .ref (A 10), .int mlength, .int mspot, .int mnumber, .ref (A 11), .int mtolds, .ref (A 12)])), ((A 1), .inl (cy 0, 672, .inl mg)), ((A 2), .inl (cy 0, 672, .inl mkept)), ((A 3), .inl (cy 0, 672, .inl mspare)), ((A 4), .inl (cy 0, 672, .inl mtrial)), ((A 5), .inl (cy 0, 5376, .inl mpast)), ((A 6), .inl (cy 0, 6, .inl mreport)), ((A 7), .inl (cy 0, 5, .inl mpart)), ((A 8), .inl (cy 0, 5, .inl mcome)), ((A 9), .inl (cy 0, 60, .inl morder)), ((A 10), .inl (cy 0, 80, .inl mtext)), ((A 11), .inl (cy 0, 200, .inl mtold)), ((A 12), .inl (cy 0, 672, .inl mahead)), (b0, .inl (cy 0, lnb, .inl fb))] (fun u => [((A 0), .inr (10, [.ref (A 1), .ref (A 2), .ref (A 3), .ref (A 4), .int mhasKept, .ref (A 5), .int u.1, .ref (A 6), .int mreports, .int mthrown, .ref (A 7), .ref (A 8), .ref (A 9), .int mordering, .int mdetail, .ref (A 10), .int mlength, .int mspot, .int mnumber, .ref (A 11), .int mtolds, .ref (A 12)])), ((A 1), .inl (cy 0, 672, .inl mg)), ((A 2), .inl (cy 0, 672, .inl mkept)), ((A 3), .inl (cy 0, 672, .inl mspare)), ((A 4), .inl (cy 0, 672, .inl mtrial)), ((A 5), .inl (cy 0, 5376, .inl u.2)), ((A 6), .inl (cy 0, 6, .inl mreport)), ((A 7), .inl (cy 0, 5, .inl mpart)), ((A 8), .inl (cy 0, 5, .inl mcome)), ((A 9), .inl (cy 0, 60, .inl morder)), ((A 10), .inl (cy 0, 80, .inl mtext)), ((A 11), .inl (cy 0, 200, .inl mtold)), ((A 12), .inl (cy 0, 672, .inl mahead)), (b0, .inl (cy 0, lnb, .inl fb))]) post := by
  refine Ctr.of (cc := cX9_changes) (maxL := 3) (ret := none) (lv0 := [(0, .ref (A 0)), (1, .ref b0)]) (by decide) rfl (Nat.le_of_ble_eq_true rfl) rfl ?_
  intro X El hR Er Enm ED E En K
  have K : Cx X cX9_changes RX9 wsX9_changes (xTys cy) sd := K
  have E : X.2.2.2.2.2.2.2.2.2.2.1 = xMQ X (fun u : Int32 × XRow => none) post (fun u => [((A 0), .inr (10, [.ref (A 1), .ref (A 2), .ref (A 3), .ref (A 4), .int mhasKept, .ref (A 5), .int u.1, .ref (A 6), .int mreports, .int mthrown, .ref (A 7), .ref (A 8), .ref (A 9), .int mordering, .int mdetail, .ref (A 10), .int mlength, .int mspot, .int mnumber, .ref (A 11), .int mtolds, .ref (A 12)])), ((A 1), .inl (cy 0, 672, .inl mg)), ((A 2), .inl (cy 0, 672, .inl mkept)), ((A 3), .inl (cy 0, 672, .inl mspare)), ((A 4), .inl (cy 0, 672, .inl mtrial)), ((A 5), .inl (cy 0, 5376, .inl u.2)), ((A 6), .inl (cy 0, 6, .inl mreport)), ((A 7), .inl (cy 0, 5, .inl mpart)), ((A 8), .inl (cy 0, 5, .inl mcome)), ((A 9), .inl (cy 0, 60, .inl morder)), ((A 10), .inl (cy 0, 80, .inl mtext)), ((A 11), .inl (cy 0, 200, .inl mtold)), ((A 12), .inl (cy 0, 672, .inl mahead)), (b0, .inl (cy 0, lnb, .inl fb))]) 0 0 := E
  unfold wp_X9_changes at hw
  refine g_aload_n K 0 dX9_changes_0 rfl ?_
  refine g_get K (C := RX9) (T := TX9) (N := 22) 0 6 in_X9_changes_X9 (by decide +kernel) rfl rfl (by decide) rfl dX9_changes_1 ?_
  refine g_bipush (v := 8) K dX9_changes_4 rfl ?_
  refine g_icmp_ne (tgt := 50) K dX9_changes_6 (by decide) (fun hc => ?_) (fun hc => ?_)
  · replace hw := hw.2 hc
    refine g_aload_n K 1 dX9_changes_50 rfl ?_
    refine g_iconst (v := 0) K dX9_changes_51 rfl ?_
    refine g_aload_n K 0 dX9_changes_52 rfl ?_
    refine g_get K (C := RX9) (T := TX9) (N := 22) 0 5 in_X9_changes_X9 (by decide +kernel) rfl rfl (by decide) rfl dX9_changes_53 ?_
    refine g_sipush (v := 672) K dX9_changes_56 rfl ?_
    refine g_aload_n K 0 dX9_changes_59 rfl ?_
    refine g_get K (C := RX9) (T := TX9) (N := 22) 0 6 in_X9_changes_X9 (by decide +kernel) rfl rfl (by decide) rfl dX9_changes_60 ?_
    refine g_imul K dX9_changes_63 ?_
    refine g_callS (st' := fun u1 => []) (ws' := fun u1 => [((A 0), .inr (10, [.ref (A 1), .ref (A 2), .ref (A 3), .ref (A 4), .int mhasKept, .ref (A 5), .int mpasts, .ref (A 6), .int mreports, .int mthrown, .ref (A 7), .ref (A 8), .ref (A 9), .int mordering, .int mdetail, .ref (A 10), .int mlength, .int mspot, .int mnumber, .ref (A 11), .int mtolds, .ref (A 12)])), ((A 1), .inl (cy 0, 672, .inl mg)), ((A 2), .inl (cy 0, 672, .inl mkept)), ((A 3), .inl (cy 0, 672, .inl mspare)), ((A 4), .inl (cy 0, 672, .inl mtrial)), ((A 5), .inl (cy 0, 5376, .inl u1)), ((A 6), .inl (cy 0, 6, .inl mreport)), ((A 7), .inl (cy 0, 5, .inl mpart)), ((A 8), .inl (cy 0, 5, .inl mcome)), ((A 9), .inl (cy 0, 60, .inl morder)), ((A 10), .inl (cy 0, 80, .inl mtext)), ((A 11), .inl (cy 0, 200, .inl mtold)), ((A 12), .inl (cy 0, 672, .inl mahead)), (b0, .inl (cy 0, lnb, .inl fb))]) K hR [.ref b0, .int 0, .ref (A 5), .int (672 * mpasts)] [] (c_X9_copies X.2.1 (gxD X) cy sd b0 (A 5) lnb fb 5376 mpast 0 (672 * mpasts) hw) gX9_changes_X9_copies rfl yok_X9_copies rfl (by decide) rfl (Nat.le_of_ble_eq_true rfl) dX9_changes_64 [13, 5] rfl (by decide) (fun _ => rfl) (fun _ => rfl) (fun _ => rfl) ⟨rfl, rfl⟩ (fun u1 hw => ?_)
    refine g_aload_n K 0 dX9_changes_67 rfl ?_
    refine g_dup K dX9_changes_68 rfl ?_
    refine g_get K (C := RX9) (T := TX9) (N := 22) 0 6 in_X9_changes_X9 (by decide +kernel) rfl rfl (by decide) rfl dX9_changes_69 ?_
    refine g_iconst (v := 1) K dX9_changes_72 rfl ?_
    refine g_iadd K dX9_changes_73 ?_
    refine g_topi (fun x2 ex2 => ?_)
    replace hw := hw x2 ex2
    refine g_put (ty := .int) (ws' := [((A 0), .inr (10, [.ref (A 1), .ref (A 2), .ref (A 3), .ref (A 4), .int mhasKept, .ref (A 5), .int x2, .ref (A 6), .int mreports, .int mthrown, .ref (A 7), .ref (A 8), .ref (A 9), .int mordering, .int mdetail, .ref (A 10), .int mlength, .int mspot, .int mnumber, .ref (A 11), .int mtolds, .ref (A 12)])), ((A 1), .inl (cy 0, 672, .inl mg)), ((A 2), .inl (cy 0, 672, .inl mkept)), ((A 3), .inl (cy 0, 672, .inl mspare)), ((A 4), .inl (cy 0, 672, .inl mtrial)), ((A 5), .inl (cy 0, 5376, .inl u1)), ((A 6), .inl (cy 0, 6, .inl mreport)), ((A 7), .inl (cy 0, 5, .inl mpart)), ((A 8), .inl (cy 0, 5, .inl mcome)), ((A 9), .inl (cy 0, 60, .inl morder)), ((A 10), .inl (cy 0, 80, .inl mtext)), ((A 11), .inl (cy 0, 200, .inl mtold)), ((A 12), .inl (cy 0, 672, .inl mahead)), (b0, .inl (cy 0, lnb, .inl fb))]) K (C := RX9) (T := TX9) (N := 22) 0 6 in_X9_changes_X9 tyX9 tyX9_ok nmX9 (by decide +kernel) rfl rfl (by decide) rfl (by decide +kernel) rfl rfl (Nat.le_of_ble_eq_true rfl) rfl dX9_changes_74 ?_
    exact g_vret K E Er (x2, u1) hw rfl rfl (Nat.le_refl _) (Nat.le_refl _) dX9_changes_77
  · replace hw := hw.1 hc
    refine g_iconst (v := 0) K dX9_changes_9 rfl ?_
    refine g_istore_n (lv' := [(2, .int 0), (0, .ref (A 0)), (1, .ref b0)]) K dX9_changes_10 rfl (by rw [En]; decide) rfl ?_
    obtain ⟨fl, hw⟩ := hw
    have key : ∀ (k11_40 : Int32 → XRow → Prop), (∀ (v3 : Int32) (v4 : XRow), k11_40 v3 v4 → Gx X 0 0 [((A 0), .inr (10, [.ref (A 1), .ref (A 2), .ref (A 3), .ref (A 4), .int mhasKept, .ref (A 5), .int mpasts, .ref (A 6), .int mreports, .int mthrown, .ref (A 7), .ref (A 8), .ref (A 9), .int mordering, .int mdetail, .ref (A 10), .int mlength, .int mspot, .int mnumber, .ref (A 11), .int mtolds, .ref (A 12)])), ((A 1), .inl (cy 0, 672, .inl mg)), ((A 2), .inl (cy 0, 672, .inl mkept)), ((A 3), .inl (cy 0, 672, .inl mspare)), ((A 4), .inl (cy 0, 672, .inl mtrial)), ((A 5), .inl (cy 0, 5376, .inl v4)), ((A 6), .inl (cy 0, 6, .inl mreport)), ((A 7), .inl (cy 0, 5, .inl mpart)), ((A 8), .inl (cy 0, 5, .inl mcome)), ((A 9), .inl (cy 0, 60, .inl morder)), ((A 10), .inl (cy 0, 80, .inl mtext)), ((A 11), .inl (cy 0, 200, .inl mtold)), ((A 12), .inl (cy 0, 672, .inl mahead)), (b0, .inl (cy 0, lnb, .inl fb))] [(2, .int v3), (0, .ref (A 0)), (1, .ref b0)] 40 []) → ∀ (n : Nat) (v3 : Int32) (v4 : XRow), wp_X9_changes_L11 k11_40 n v3 v4 → Gx X 0 0 [((A 0), .inr (10, [.ref (A 1), .ref (A 2), .ref (A 3), .ref (A 4), .int mhasKept, .ref (A 5), .int mpasts, .ref (A 6), .int mreports, .int mthrown, .ref (A 7), .ref (A 8), .ref (A 9), .int mordering, .int mdetail, .ref (A 10), .int mlength, .int mspot, .int mnumber, .ref (A 11), .int mtolds, .ref (A 12)])), ((A 1), .inl (cy 0, 672, .inl mg)), ((A 2), .inl (cy 0, 672, .inl mkept)), ((A 3), .inl (cy 0, 672, .inl mspare)), ((A 4), .inl (cy 0, 672, .inl mtrial)), ((A 5), .inl (cy 0, 5376, .inl v4)), ((A 6), .inl (cy 0, 6, .inl mreport)), ((A 7), .inl (cy 0, 5, .inl mpart)), ((A 8), .inl (cy 0, 5, .inl mcome)), ((A 9), .inl (cy 0, 60, .inl morder)), ((A 10), .inl (cy 0, 80, .inl mtext)), ((A 11), .inl (cy 0, 200, .inl mtold)), ((A 12), .inl (cy 0, 672, .inl mahead)), (b0, .inl (cy 0, lnb, .inl fb))] [(2, .int v3), (0, .ref (A 0)), (1, .ref b0)] 11 [] := by
      intro k11_40 hx40 n
      induction n with
      | zero => intro v3 v4 hw; exact hw.elim
      | succ n ih =>
        intro v3 v4 hw
        refine g_iload_n K 0 dX9_changes_11 rfl ?_
        refine g_sipush (v := 4704) K dX9_changes_12 rfl ?_
        refine g_icmp_ge (tgt := 40) K dX9_changes_15 (by decide) (fun hc => ?_) (fun hc => ?_)
        · replace hw := hw.1 hc
          exact hx40 _ _ hw
        · replace hw := hw.2 hc
          refine g_aload_n K 1 dX9_changes_18 rfl ?_
          refine g_get K (C := RX9) (T := TX9) (N := 22) 0 5 in_X9_changes_X9 (by decide +kernel) rfl rfl (by decide) rfl dX9_changes_19 ?_
          refine g_iload_n K 0 dX9_changes_22 rfl ?_
          refine g_aload_n K 1 dX9_changes_23 rfl ?_
          refine g_get K (C := RX9) (T := TX9) (N := 22) 0 5 in_X9_changes_X9 (by decide +kernel) rfl rfl (by decide) rfl dX9_changes_24 ?_
          refine g_iload_n K 0 dX9_changes_27 rfl ?_
          refine g_sipush (v := 672) K dX9_changes_28 rfl ?_
          refine g_iadd K dX9_changes_31 ?_
          refine g_iald K 5 0 rfl rfl hw.1 dX9_changes_32 ?_
          replace hw := hw.2
          refine g_iast (ws' := [((A 0), .inr (10, [.ref (A 1), .ref (A 2), .ref (A 3), .ref (A 4), .int mhasKept, .ref (A 5), .int mpasts, .ref (A 6), .int mreports, .int mthrown, .ref (A 7), .ref (A 8), .ref (A 9), .int mordering, .int mdetail, .ref (A 10), .int mlength, .int mspot, .int mnumber, .ref (A 11), .int mtolds, .ref (A 12)])), ((A 1), .inl (cy 0, 672, .inl mg)), ((A 2), .inl (cy 0, 672, .inl mkept)), ((A 3), .inl (cy 0, 672, .inl mspare)), ((A 4), .inl (cy 0, 672, .inl mtrial)), ((A 5), .inl (cy 0, 5376, .inl (upd v4 (v3).toNatClampNeg (v4 (v3 + 672).toNatClampNeg)))), ((A 6), .inl (cy 0, 6, .inl mreport)), ((A 7), .inl (cy 0, 5, .inl mpart)), ((A 8), .inl (cy 0, 5, .inl mcome)), ((A 9), .inl (cy 0, 60, .inl morder)), ((A 10), .inl (cy 0, 80, .inl mtext)), ((A 11), .inl (cy 0, 200, .inl mtold)), ((A 12), .inl (cy 0, 672, .inl mahead)), (b0, .inl (cy 0, lnb, .inl fb))]) K 5 0 rfl rfl hw.1 rfl dX9_changes_33 ?_
          replace hw := hw.2
          obtain ⟨x5, ex5⟩ : ∃ z : Int32, z = v3 + 1 := ⟨_, rfl⟩
          replace hw := hw x5 ex5
          refine g_iinc (v := x5) (lv' := [(2, .int x5), (0, .ref (A 0)), (1, .ref b0)]) K 0 dX9_changes_34 rfl (by rw [ex5]; rfl) (by rw [En]; decide) rfl ?_
          refine g_goto (tgt := 11) K dX9_changes_37 (by decide) ?_
          exact ih _ _ hw
    refine key _ (fun v6 v7 hw => ?_) fl _ _ hw
    refine g_aload_n K 1 dX9_changes_40 rfl ?_
    refine g_dup K dX9_changes_41 rfl ?_
    refine g_get K (C := RX9) (T := TX9) (N := 22) 0 6 in_X9_changes_X9 (by decide +kernel) rfl rfl (by decide) rfl dX9_changes_42 ?_
    refine g_iconst (v := 1) K dX9_changes_45 rfl ?_
    refine g_isub K dX9_changes_46 ?_
    refine g_topi (fun x8 ex8 => ?_)
    replace hw := hw x8 ex8
    refine g_put (ty := .int) (ws' := [((A 0), .inr (10, [.ref (A 1), .ref (A 2), .ref (A 3), .ref (A 4), .int mhasKept, .ref (A 5), .int x8, .ref (A 6), .int mreports, .int mthrown, .ref (A 7), .ref (A 8), .ref (A 9), .int mordering, .int mdetail, .ref (A 10), .int mlength, .int mspot, .int mnumber, .ref (A 11), .int mtolds, .ref (A 12)])), ((A 1), .inl (cy 0, 672, .inl mg)), ((A 2), .inl (cy 0, 672, .inl mkept)), ((A 3), .inl (cy 0, 672, .inl mspare)), ((A 4), .inl (cy 0, 672, .inl mtrial)), ((A 5), .inl (cy 0, 5376, .inl v7)), ((A 6), .inl (cy 0, 6, .inl mreport)), ((A 7), .inl (cy 0, 5, .inl mpart)), ((A 8), .inl (cy 0, 5, .inl mcome)), ((A 9), .inl (cy 0, 60, .inl morder)), ((A 10), .inl (cy 0, 80, .inl mtext)), ((A 11), .inl (cy 0, 200, .inl mtold)), ((A 12), .inl (cy 0, 672, .inl mahead)), (b0, .inl (cy 0, lnb, .inl fb))]) K (C := RX9) (T := TX9) (N := 22) 0 6 in_X9_changes_X9 tyX9 tyX9_ok nmX9 (by decide +kernel) rfl rfl (by decide) rfl (by decide +kernel) rfl rfl (Nat.le_of_ble_eq_true rfl) rfl dX9_changes_47 ?_
    refine g_aload_n K 2 dX9_changes_50 rfl ?_
    refine g_iconst (v := 0) K dX9_changes_51 rfl ?_
    refine g_aload_n K 1 dX9_changes_52 rfl ?_
    refine g_get K (C := RX9) (T := TX9) (N := 22) 0 5 in_X9_changes_X9 (by decide +kernel) rfl rfl (by decide) rfl dX9_changes_53 ?_
    refine g_sipush (v := 672) K dX9_changes_56 rfl ?_
    refine g_aload_n K 1 dX9_changes_59 rfl ?_
    refine g_get K (C := RX9) (T := TX9) (N := 22) 0 6 in_X9_changes_X9 (by decide +kernel) rfl rfl (by decide) rfl dX9_changes_60 ?_
    refine g_imul K dX9_changes_63 ?_
    refine g_callS (st' := fun u9 => []) (ws' := fun u9 => [((A 0), .inr (10, [.ref (A 1), .ref (A 2), .ref (A 3), .ref (A 4), .int mhasKept, .ref (A 5), .int x8, .ref (A 6), .int mreports, .int mthrown, .ref (A 7), .ref (A 8), .ref (A 9), .int mordering, .int mdetail, .ref (A 10), .int mlength, .int mspot, .int mnumber, .ref (A 11), .int mtolds, .ref (A 12)])), ((A 1), .inl (cy 0, 672, .inl mg)), ((A 2), .inl (cy 0, 672, .inl mkept)), ((A 3), .inl (cy 0, 672, .inl mspare)), ((A 4), .inl (cy 0, 672, .inl mtrial)), ((A 5), .inl (cy 0, 5376, .inl u9)), ((A 6), .inl (cy 0, 6, .inl mreport)), ((A 7), .inl (cy 0, 5, .inl mpart)), ((A 8), .inl (cy 0, 5, .inl mcome)), ((A 9), .inl (cy 0, 60, .inl morder)), ((A 10), .inl (cy 0, 80, .inl mtext)), ((A 11), .inl (cy 0, 200, .inl mtold)), ((A 12), .inl (cy 0, 672, .inl mahead)), (b0, .inl (cy 0, lnb, .inl fb))]) K hR [.ref b0, .int 0, .ref (A 5), .int (672 * x8)] [] (c_X9_copies X.2.1 (gxD X) cy sd b0 (A 5) lnb fb 5376 v7 0 (672 * x8) hw) gX9_changes_X9_copies rfl yok_X9_copies rfl (by decide) rfl (Nat.le_of_ble_eq_true rfl) dX9_changes_64 [13, 5] rfl (by decide) (fun _ => rfl) (fun _ => rfl) (fun _ => rfl) ⟨rfl, rfl⟩ (fun u9 hw => ?_)
    refine g_aload_n K 1 dX9_changes_67 rfl ?_
    refine g_dup K dX9_changes_68 rfl ?_
    refine g_get K (C := RX9) (T := TX9) (N := 22) 0 6 in_X9_changes_X9 (by decide +kernel) rfl rfl (by decide) rfl dX9_changes_69 ?_
    refine g_iconst (v := 1) K dX9_changes_72 rfl ?_
    refine g_iadd K dX9_changes_73 ?_
    refine g_topi (fun x10 ex10 => ?_)
    replace hw := hw x10 ex10
    refine g_put (ty := .int) (ws' := [((A 0), .inr (10, [.ref (A 1), .ref (A 2), .ref (A 3), .ref (A 4), .int mhasKept, .ref (A 5), .int x10, .ref (A 6), .int mreports, .int mthrown, .ref (A 7), .ref (A 8), .ref (A 9), .int mordering, .int mdetail, .ref (A 10), .int mlength, .int mspot, .int mnumber, .ref (A 11), .int mtolds, .ref (A 12)])), ((A 1), .inl (cy 0, 672, .inl mg)), ((A 2), .inl (cy 0, 672, .inl mkept)), ((A 3), .inl (cy 0, 672, .inl mspare)), ((A 4), .inl (cy 0, 672, .inl mtrial)), ((A 5), .inl (cy 0, 5376, .inl u9)), ((A 6), .inl (cy 0, 6, .inl mreport)), ((A 7), .inl (cy 0, 5, .inl mpart)), ((A 8), .inl (cy 0, 5, .inl mcome)), ((A 9), .inl (cy 0, 60, .inl morder)), ((A 10), .inl (cy 0, 80, .inl mtext)), ((A 11), .inl (cy 0, 200, .inl mtold)), ((A 12), .inl (cy 0, 672, .inl mahead)), (b0, .inl (cy 0, lnb, .inl fb))]) K (C := RX9) (T := TX9) (N := 22) 0 6 in_X9_changes_X9 tyX9 tyX9_ok nmX9 (by decide +kernel) rfl rfl (by decide) rfl (by decide +kernel) rfl rfl (Nat.le_of_ble_eq_true rfl) rfl dX9_changes_74 ?_
    exact g_vret K E Er (x10, u9) hw rfl rfl (Nat.le_refl _) (Nat.le_refl _) dX9_changes_77

def wp_X9_undo (mg : XRow) (mpast : XRow) (mpasts : Int32) (post : (Int32 × Int32 × Int32 × XRow) → Prop) : Prop := (mpasts = 0 → (post (0, mpasts, 1, mg))) ∧ (¬ mpasts = 0 → (∀ x1 : Int32, x1 = mpasts - 1 → (wp_X9_copies 5376 mpast 672 mg (672 * x1) 0 (fun u2 : XRow => post (x1, x1, 0, u2)))))
theorem in_X9_undo_X9 : ∀ w ∈ u_ws RX9 TX9 22, w ∈ wsX9_undo := by decide +kernel
set_option maxRecDepth 100000 in
set_option maxHeartbeats 4000000 in
theorem c_X9_undo (l : Launch) (D : va_G) (cy : Nat → ClassId) (sd : xSd) (A : Nat → Nat) (mg : XRow) (mkept : XRow) (mspare : XRow) (mtrial : XRow) (mpast : XRow) (mreport : XRow) (mpart : XRow) (mcome : XRow) (morder : XRow) (mtext : XRow) (mtold : XRow) (mahead : XRow) (mhasKept : Int32) (mpasts : Int32) (mreports : Int32) (mthrown : Int32) (mordering : Int32) (mdetail : Int32) (mlength : Int32) (mspot : Int32) (mnumber : Int32) (mtolds : Int32) {post : (Int32 × Int32 × Int32 × XRow) → Prop} (hw : wp_X9_undo mg mpast mpasts post) : Ctr l D (xTys cy) sd yX9_undo wsX9_undo ({ frames := 1, cells := 0, slots := 0, locals := 24 } : Room) [.ref (A 0)] (fun u : Int32 × Int32 × Int32 × XRow => some (.int u.1)) [((A 0), .inr (10, [.ref (A 1), .ref (A 2), .ref (A 3), .ref (A 4), .int mhasKept, .ref (A 5), .int mpasts, .ref (A 6), .int mreports, .int mthrown, .ref (A 7), .ref (A 8), .ref (A 9), .int mordering, .int mdetail, .ref (A 10), .int mlength, .int mspot, .int mnumber, .ref (A 11), .int mtolds, .ref (A 12)])), ((A 1), .inl (cy 0, 672, .inl mg)), ((A 2), .inl (cy 0, 672, .inl mkept)), ((A 3), .inl (cy 0, 672, .inl mspare)), ((A 4), .inl (cy 0, 672, .inl mtrial)), ((A 5), .inl (cy 0, 5376, .inl mpast)), ((A 6), .inl (cy 0, 6, .inl mreport)), ((A 7), .inl (cy 0, 5, .inl mpart)), ((A 8), .inl (cy 0, 5, .inl mcome)), ((A 9), .inl (cy 0, 60, .inl morder)), ((A 10), .inl (cy 0, 80, .inl mtext)), ((A 11), .inl (cy 0, 200, .inl mtold)), ((A 12), .inl (cy 0, 672, .inl mahead))] (fun u => [((A 0), .inr (10, [.ref (A 1), .ref (A 2), .ref (A 3), .ref (A 4), .int mhasKept, .ref (A 5), .int u.2.1, .ref (A 6), .int mreports, .int u.2.2.1, .ref (A 7), .ref (A 8), .ref (A 9), .int mordering, .int mdetail, .ref (A 10), .int mlength, .int mspot, .int mnumber, .ref (A 11), .int mtolds, .ref (A 12)])), ((A 1), .inl (cy 0, 672, .inl u.2.2.2)), ((A 2), .inl (cy 0, 672, .inl mkept)), ((A 3), .inl (cy 0, 672, .inl mspare)), ((A 4), .inl (cy 0, 672, .inl mtrial)), ((A 5), .inl (cy 0, 5376, .inl mpast)), ((A 6), .inl (cy 0, 6, .inl mreport)), ((A 7), .inl (cy 0, 5, .inl mpart)), ((A 8), .inl (cy 0, 5, .inl mcome)), ((A 9), .inl (cy 0, 60, .inl morder)), ((A 10), .inl (cy 0, 80, .inl mtext)), ((A 11), .inl (cy 0, 200, .inl mtold)), ((A 12), .inl (cy 0, 672, .inl mahead))]) post := by
  refine Ctr.of (cc := cX9_undo) (maxL := 1) (ret := (some .int)) (lv0 := [(0, .ref (A 0))]) (by decide) rfl (Nat.le_of_ble_eq_true rfl) rfl ?_
  intro X El hR Er Enm ED E En K
  have K : Cx X cX9_undo RX9 wsX9_undo (xTys cy) sd := K
  have E : X.2.2.2.2.2.2.2.2.2.2.1 = xMQ X (fun u : Int32 × Int32 × Int32 × XRow => some (.int u.1)) post (fun u => [((A 0), .inr (10, [.ref (A 1), .ref (A 2), .ref (A 3), .ref (A 4), .int mhasKept, .ref (A 5), .int u.2.1, .ref (A 6), .int mreports, .int u.2.2.1, .ref (A 7), .ref (A 8), .ref (A 9), .int mordering, .int mdetail, .ref (A 10), .int mlength, .int mspot, .int mnumber, .ref (A 11), .int mtolds, .ref (A 12)])), ((A 1), .inl (cy 0, 672, .inl u.2.2.2)), ((A 2), .inl (cy 0, 672, .inl mkept)), ((A 3), .inl (cy 0, 672, .inl mspare)), ((A 4), .inl (cy 0, 672, .inl mtrial)), ((A 5), .inl (cy 0, 5376, .inl mpast)), ((A 6), .inl (cy 0, 6, .inl mreport)), ((A 7), .inl (cy 0, 5, .inl mpart)), ((A 8), .inl (cy 0, 5, .inl mcome)), ((A 9), .inl (cy 0, 60, .inl morder)), ((A 10), .inl (cy 0, 80, .inl mtext)), ((A 11), .inl (cy 0, 200, .inl mtold)), ((A 12), .inl (cy 0, 672, .inl mahead))]) 0 0 := E
  unfold wp_X9_undo at hw
  refine g_aload_n K 0 dX9_undo_0 rfl ?_
  refine g_aload_n K 0 dX9_undo_1 rfl ?_
  refine g_get K (C := RX9) (T := TX9) (N := 22) 0 6 in_X9_undo_X9 (by decide +kernel) rfl rfl (by decide) rfl dX9_undo_2 ?_
  refine g_if_ne (tgt := 12) K dX9_undo_5 (by decide) (fun hc => ?_) (fun hc => ?_)
  · replace hw := hw.2 hc
    refine g_iconst (v := 0) K dX9_undo_12 rfl ?_
    refine g_put (ty := .int) (ws' := [((A 0), .inr (10, [.ref (A 1), .ref (A 2), .ref (A 3), .ref (A 4), .int mhasKept, .ref (A 5), .int mpasts, .ref (A 6), .int mreports, .int 0, .ref (A 7), .ref (A 8), .ref (A 9), .int mordering, .int mdetail, .ref (A 10), .int mlength, .int mspot, .int mnumber, .ref (A 11), .int mtolds, .ref (A 12)])), ((A 1), .inl (cy 0, 672, .inl mg)), ((A 2), .inl (cy 0, 672, .inl mkept)), ((A 3), .inl (cy 0, 672, .inl mspare)), ((A 4), .inl (cy 0, 672, .inl mtrial)), ((A 5), .inl (cy 0, 5376, .inl mpast)), ((A 6), .inl (cy 0, 6, .inl mreport)), ((A 7), .inl (cy 0, 5, .inl mpart)), ((A 8), .inl (cy 0, 5, .inl mcome)), ((A 9), .inl (cy 0, 60, .inl morder)), ((A 10), .inl (cy 0, 80, .inl mtext)), ((A 11), .inl (cy 0, 200, .inl mtold)), ((A 12), .inl (cy 0, 672, .inl mahead))]) K (C := RX9) (T := TX9) (N := 22) 0 9 in_X9_undo_X9 tyX9 tyX9_ok nmX9 (by decide +kernel) rfl rfl (by decide) rfl (by decide +kernel) rfl rfl (Nat.le_of_ble_eq_true rfl) rfl dX9_undo_13 ?_
    refine g_aload_n K 0 dX9_undo_16 rfl ?_
    refine g_get K (C := RX9) (T := TX9) (N := 22) 0 9 in_X9_undo_X9 (by decide +kernel) rfl rfl (by decide) rfl dX9_undo_17 ?_
    refine g_if_le (tgt := 25) K dX9_undo_20 (by decide) (fun _ => ?_) (fun hc => absurd (by decide) hc)
    refine g_aload_n K 0 dX9_undo_25 rfl ?_
    refine g_dup K dX9_undo_26 rfl ?_
    refine g_get K (C := RX9) (T := TX9) (N := 22) 0 6 in_X9_undo_X9 (by decide +kernel) rfl rfl (by decide) rfl dX9_undo_27 ?_
    refine g_iconst (v := 1) K dX9_undo_30 rfl ?_
    refine g_isub K dX9_undo_31 ?_
    refine g_topi (fun x1 ex1 => ?_)
    replace hw := hw x1 ex1
    refine g_put (ty := .int) (ws' := [((A 0), .inr (10, [.ref (A 1), .ref (A 2), .ref (A 3), .ref (A 4), .int mhasKept, .ref (A 5), .int x1, .ref (A 6), .int mreports, .int 0, .ref (A 7), .ref (A 8), .ref (A 9), .int mordering, .int mdetail, .ref (A 10), .int mlength, .int mspot, .int mnumber, .ref (A 11), .int mtolds, .ref (A 12)])), ((A 1), .inl (cy 0, 672, .inl mg)), ((A 2), .inl (cy 0, 672, .inl mkept)), ((A 3), .inl (cy 0, 672, .inl mspare)), ((A 4), .inl (cy 0, 672, .inl mtrial)), ((A 5), .inl (cy 0, 5376, .inl mpast)), ((A 6), .inl (cy 0, 6, .inl mreport)), ((A 7), .inl (cy 0, 5, .inl mpart)), ((A 8), .inl (cy 0, 5, .inl mcome)), ((A 9), .inl (cy 0, 60, .inl morder)), ((A 10), .inl (cy 0, 80, .inl mtext)), ((A 11), .inl (cy 0, 200, .inl mtold)), ((A 12), .inl (cy 0, 672, .inl mahead))]) K (C := RX9) (T := TX9) (N := 22) 0 6 in_X9_undo_X9 tyX9 tyX9_ok nmX9 (by decide +kernel) rfl rfl (by decide) rfl (by decide +kernel) rfl rfl (Nat.le_of_ble_eq_true rfl) rfl dX9_undo_32 ?_
    refine g_aload_n K 0 dX9_undo_35 rfl ?_
    refine g_get K (C := RX9) (T := TX9) (N := 22) 0 5 in_X9_undo_X9 (by decide +kernel) rfl rfl (by decide) rfl dX9_undo_36 ?_
    refine g_sipush (v := 672) K dX9_undo_39 rfl ?_
    refine g_aload_n K 0 dX9_undo_42 rfl ?_
    refine g_get K (C := RX9) (T := TX9) (N := 22) 0 6 in_X9_undo_X9 (by decide +kernel) rfl rfl (by decide) rfl dX9_undo_43 ?_
    refine g_imul K dX9_undo_46 ?_
    refine g_aload_n K 0 dX9_undo_47 rfl ?_
    refine g_get K (C := RX9) (T := TX9) (N := 22) 0 0 in_X9_undo_X9 (by decide +kernel) rfl rfl (by decide) rfl dX9_undo_48 ?_
    refine g_iconst (v := 0) K dX9_undo_51 rfl ?_
    refine g_callS (st' := fun u2 => []) (ws' := fun u2 => [((A 0), .inr (10, [.ref (A 1), .ref (A 2), .ref (A 3), .ref (A 4), .int mhasKept, .ref (A 5), .int x1, .ref (A 6), .int mreports, .int 0, .ref (A 7), .ref (A 8), .ref (A 9), .int mordering, .int mdetail, .ref (A 10), .int mlength, .int mspot, .int mnumber, .ref (A 11), .int mtolds, .ref (A 12)])), ((A 1), .inl (cy 0, 672, .inl u2)), ((A 2), .inl (cy 0, 672, .inl mkept)), ((A 3), .inl (cy 0, 672, .inl mspare)), ((A 4), .inl (cy 0, 672, .inl mtrial)), ((A 5), .inl (cy 0, 5376, .inl mpast)), ((A 6), .inl (cy 0, 6, .inl mreport)), ((A 7), .inl (cy 0, 5, .inl mpart)), ((A 8), .inl (cy 0, 5, .inl mcome)), ((A 9), .inl (cy 0, 60, .inl morder)), ((A 10), .inl (cy 0, 80, .inl mtext)), ((A 11), .inl (cy 0, 200, .inl mtold)), ((A 12), .inl (cy 0, 672, .inl mahead))]) K hR [.ref (A 5), .int (672 * x1), .ref (A 1), .int 0] [] (c_X9_copies X.2.1 (gxD X) cy sd (A 5) (A 1) 5376 mpast 672 mg (672 * x1) 0 hw) gX9_undo_X9_copies rfl yok_X9_copies rfl (by decide) rfl (Nat.le_of_ble_eq_true rfl) dX9_undo_52 [5, 1] rfl (by decide) (fun _ => rfl) (fun _ => rfl) (fun _ => rfl) ⟨rfl, rfl⟩ (fun u2 hw => ?_)
    refine g_aload_n K 0 dX9_undo_55 rfl ?_
    refine g_get K (C := RX9) (T := TX9) (N := 22) 0 6 in_X9_undo_X9 (by decide +kernel) rfl rfl (by decide) rfl dX9_undo_56 ?_
    exact g_zret K E Er (x1, x1, 0, u2) hw rfl rfl rfl (Nat.le_refl _) (Nat.le_refl _) dX9_undo_59
  · replace hw := hw.1 hc
    refine g_iconst (v := 1) K dX9_undo_8 rfl ?_
    refine g_goto (tgt := 13) K dX9_undo_9 (by decide) ?_
    refine g_put (ty := .int) (ws' := [((A 0), .inr (10, [.ref (A 1), .ref (A 2), .ref (A 3), .ref (A 4), .int mhasKept, .ref (A 5), .int mpasts, .ref (A 6), .int mreports, .int 1, .ref (A 7), .ref (A 8), .ref (A 9), .int mordering, .int mdetail, .ref (A 10), .int mlength, .int mspot, .int mnumber, .ref (A 11), .int mtolds, .ref (A 12)])), ((A 1), .inl (cy 0, 672, .inl mg)), ((A 2), .inl (cy 0, 672, .inl mkept)), ((A 3), .inl (cy 0, 672, .inl mspare)), ((A 4), .inl (cy 0, 672, .inl mtrial)), ((A 5), .inl (cy 0, 5376, .inl mpast)), ((A 6), .inl (cy 0, 6, .inl mreport)), ((A 7), .inl (cy 0, 5, .inl mpart)), ((A 8), .inl (cy 0, 5, .inl mcome)), ((A 9), .inl (cy 0, 60, .inl morder)), ((A 10), .inl (cy 0, 80, .inl mtext)), ((A 11), .inl (cy 0, 200, .inl mtold)), ((A 12), .inl (cy 0, 672, .inl mahead))]) K (C := RX9) (T := TX9) (N := 22) 0 9 in_X9_undo_X9 tyX9 tyX9_ok nmX9 (by decide +kernel) rfl rfl (by decide) rfl (by decide +kernel) rfl rfl (Nat.le_of_ble_eq_true rfl) rfl dX9_undo_13 ?_
    refine g_aload_n K 0 dX9_undo_16 rfl ?_
    refine g_get K (C := RX9) (T := TX9) (N := 22) 0 9 in_X9_undo_X9 (by decide +kernel) rfl rfl (by decide) rfl dX9_undo_17 ?_
    refine g_if_le (tgt := 25) K dX9_undo_20 (by decide) (fun hc => absurd hc (by decide)) (fun _ => ?_)
    refine g_iconst (v := 0) K dX9_undo_23 rfl ?_
    exact g_zret K E Er (0, mpasts, 1, mg) hw rfl rfl rfl (Nat.le_refl _) (Nat.le_refl _) dX9_undo_24

def wp_X9_save (mg : XRow) (mkept : XRow) (post : (Int32 × Int32 × Int32 × XRow) → Prop) : Prop := wp_X9_copies 672 mg 672 mkept 0 0 (fun u1 : XRow => vp_in 2 672 ∧ (post (mg ((2 : Int32).toNatClampNeg), 1, 0, u1)))
theorem in_X9_save_X9 : ∀ w ∈ u_ws RX9 TX9 22, w ∈ wsX9_save := by decide +kernel
set_option maxRecDepth 100000 in
set_option maxHeartbeats 4000000 in
theorem c_X9_save (l : Launch) (D : va_G) (cy : Nat → ClassId) (sd : xSd) (A : Nat → Nat) (mg : XRow) (mkept : XRow) (mspare : XRow) (mtrial : XRow) (mpast : XRow) (mreport : XRow) (mpart : XRow) (mcome : XRow) (morder : XRow) (mtext : XRow) (mtold : XRow) (mahead : XRow) (mhasKept : Int32) (mpasts : Int32) (mreports : Int32) (mthrown : Int32) (mordering : Int32) (mdetail : Int32) (mlength : Int32) (mspot : Int32) (mnumber : Int32) (mtolds : Int32) {post : (Int32 × Int32 × Int32 × XRow) → Prop} (hw : wp_X9_save mg mkept post) : Ctr l D (xTys cy) sd yX9_save wsX9_save ({ frames := 1, cells := 0, slots := 0, locals := 24 } : Room) [.ref (A 0)] (fun u : Int32 × Int32 × Int32 × XRow => some (.int u.1)) [((A 0), .inr (10, [.ref (A 1), .ref (A 2), .ref (A 3), .ref (A 4), .int mhasKept, .ref (A 5), .int mpasts, .ref (A 6), .int mreports, .int mthrown, .ref (A 7), .ref (A 8), .ref (A 9), .int mordering, .int mdetail, .ref (A 10), .int mlength, .int mspot, .int mnumber, .ref (A 11), .int mtolds, .ref (A 12)])), ((A 1), .inl (cy 0, 672, .inl mg)), ((A 2), .inl (cy 0, 672, .inl mkept)), ((A 3), .inl (cy 0, 672, .inl mspare)), ((A 4), .inl (cy 0, 672, .inl mtrial)), ((A 5), .inl (cy 0, 5376, .inl mpast)), ((A 6), .inl (cy 0, 6, .inl mreport)), ((A 7), .inl (cy 0, 5, .inl mpart)), ((A 8), .inl (cy 0, 5, .inl mcome)), ((A 9), .inl (cy 0, 60, .inl morder)), ((A 10), .inl (cy 0, 80, .inl mtext)), ((A 11), .inl (cy 0, 200, .inl mtold)), ((A 12), .inl (cy 0, 672, .inl mahead))] (fun u => [((A 0), .inr (10, [.ref (A 1), .ref (A 2), .ref (A 3), .ref (A 4), .int u.2.1, .ref (A 5), .int mpasts, .ref (A 6), .int mreports, .int u.2.2.1, .ref (A 7), .ref (A 8), .ref (A 9), .int mordering, .int mdetail, .ref (A 10), .int mlength, .int mspot, .int mnumber, .ref (A 11), .int mtolds, .ref (A 12)])), ((A 1), .inl (cy 0, 672, .inl mg)), ((A 2), .inl (cy 0, 672, .inl u.2.2.2)), ((A 3), .inl (cy 0, 672, .inl mspare)), ((A 4), .inl (cy 0, 672, .inl mtrial)), ((A 5), .inl (cy 0, 5376, .inl mpast)), ((A 6), .inl (cy 0, 6, .inl mreport)), ((A 7), .inl (cy 0, 5, .inl mpart)), ((A 8), .inl (cy 0, 5, .inl mcome)), ((A 9), .inl (cy 0, 60, .inl morder)), ((A 10), .inl (cy 0, 80, .inl mtext)), ((A 11), .inl (cy 0, 200, .inl mtold)), ((A 12), .inl (cy 0, 672, .inl mahead))]) post := by
  refine Ctr.of (cc := cX9_save) (maxL := 1) (ret := (some .int)) (lv0 := [(0, .ref (A 0))]) (by decide) rfl (Nat.le_of_ble_eq_true rfl) rfl ?_
  intro X El hR Er Enm ED E En K
  have K : Cx X cX9_save RX9 wsX9_save (xTys cy) sd := K
  have E : X.2.2.2.2.2.2.2.2.2.2.1 = xMQ X (fun u : Int32 × Int32 × Int32 × XRow => some (.int u.1)) post (fun u => [((A 0), .inr (10, [.ref (A 1), .ref (A 2), .ref (A 3), .ref (A 4), .int u.2.1, .ref (A 5), .int mpasts, .ref (A 6), .int mreports, .int u.2.2.1, .ref (A 7), .ref (A 8), .ref (A 9), .int mordering, .int mdetail, .ref (A 10), .int mlength, .int mspot, .int mnumber, .ref (A 11), .int mtolds, .ref (A 12)])), ((A 1), .inl (cy 0, 672, .inl mg)), ((A 2), .inl (cy 0, 672, .inl u.2.2.2)), ((A 3), .inl (cy 0, 672, .inl mspare)), ((A 4), .inl (cy 0, 672, .inl mtrial)), ((A 5), .inl (cy 0, 5376, .inl mpast)), ((A 6), .inl (cy 0, 6, .inl mreport)), ((A 7), .inl (cy 0, 5, .inl mpart)), ((A 8), .inl (cy 0, 5, .inl mcome)), ((A 9), .inl (cy 0, 60, .inl morder)), ((A 10), .inl (cy 0, 80, .inl mtext)), ((A 11), .inl (cy 0, 200, .inl mtold)), ((A 12), .inl (cy 0, 672, .inl mahead))]) 0 0 := E
  unfold wp_X9_save at hw
  refine g_aload_n K 0 dX9_save_0 rfl ?_
  refine g_iconst (v := 0) K dX9_save_1 rfl ?_
  refine g_put (ty := .int) (ws' := [((A 0), .inr (10, [.ref (A 1), .ref (A 2), .ref (A 3), .ref (A 4), .int mhasKept, .ref (A 5), .int mpasts, .ref (A 6), .int mreports, .int 0, .ref (A 7), .ref (A 8), .ref (A 9), .int mordering, .int mdetail, .ref (A 10), .int mlength, .int mspot, .int mnumber, .ref (A 11), .int mtolds, .ref (A 12)])), ((A 1), .inl (cy 0, 672, .inl mg)), ((A 2), .inl (cy 0, 672, .inl mkept)), ((A 3), .inl (cy 0, 672, .inl mspare)), ((A 4), .inl (cy 0, 672, .inl mtrial)), ((A 5), .inl (cy 0, 5376, .inl mpast)), ((A 6), .inl (cy 0, 6, .inl mreport)), ((A 7), .inl (cy 0, 5, .inl mpart)), ((A 8), .inl (cy 0, 5, .inl mcome)), ((A 9), .inl (cy 0, 60, .inl morder)), ((A 10), .inl (cy 0, 80, .inl mtext)), ((A 11), .inl (cy 0, 200, .inl mtold)), ((A 12), .inl (cy 0, 672, .inl mahead))]) K (C := RX9) (T := TX9) (N := 22) 0 9 in_X9_save_X9 tyX9 tyX9_ok nmX9 (by decide +kernel) rfl rfl (by decide) rfl (by decide +kernel) rfl rfl (Nat.le_of_ble_eq_true rfl) rfl dX9_save_2 ?_
  refine g_aload_n K 0 dX9_save_5 rfl ?_
  refine g_iconst (v := 1) K dX9_save_6 rfl ?_
  refine g_put (ty := .boolean) (ws' := [((A 0), .inr (10, [.ref (A 1), .ref (A 2), .ref (A 3), .ref (A 4), .int 1, .ref (A 5), .int mpasts, .ref (A 6), .int mreports, .int 0, .ref (A 7), .ref (A 8), .ref (A 9), .int mordering, .int mdetail, .ref (A 10), .int mlength, .int mspot, .int mnumber, .ref (A 11), .int mtolds, .ref (A 12)])), ((A 1), .inl (cy 0, 672, .inl mg)), ((A 2), .inl (cy 0, 672, .inl mkept)), ((A 3), .inl (cy 0, 672, .inl mspare)), ((A 4), .inl (cy 0, 672, .inl mtrial)), ((A 5), .inl (cy 0, 5376, .inl mpast)), ((A 6), .inl (cy 0, 6, .inl mreport)), ((A 7), .inl (cy 0, 5, .inl mpart)), ((A 8), .inl (cy 0, 5, .inl mcome)), ((A 9), .inl (cy 0, 60, .inl morder)), ((A 10), .inl (cy 0, 80, .inl mtext)), ((A 11), .inl (cy 0, 200, .inl mtold)), ((A 12), .inl (cy 0, 672, .inl mahead))]) K (C := RX9) (T := TX9) (N := 22) 0 4 in_X9_save_X9 tyX9 tyX9_ok nmX9 (by decide +kernel) rfl rfl (by decide) rfl (by decide +kernel) (by rfl) (by rfl) (Nat.le_of_ble_eq_true rfl) rfl dX9_save_7 ?_
  refine g_aload_n K 0 dX9_save_10 rfl ?_
  refine g_get K (C := RX9) (T := TX9) (N := 22) 0 0 in_X9_save_X9 (by decide +kernel) rfl rfl (by decide) rfl dX9_save_11 ?_
  refine g_iconst (v := 0) K dX9_save_14 rfl ?_
  refine g_aload_n K 0 dX9_save_15 rfl ?_
  refine g_get K (C := RX9) (T := TX9) (N := 22) 0 1 in_X9_save_X9 (by decide +kernel) rfl rfl (by decide) rfl dX9_save_16 ?_
  refine g_iconst (v := 0) K dX9_save_19 rfl ?_
  refine g_callS (st' := fun u1 => []) (ws' := fun u1 => [((A 0), .inr (10, [.ref (A 1), .ref (A 2), .ref (A 3), .ref (A 4), .int 1, .ref (A 5), .int mpasts, .ref (A 6), .int mreports, .int 0, .ref (A 7), .ref (A 8), .ref (A 9), .int mordering, .int mdetail, .ref (A 10), .int mlength, .int mspot, .int mnumber, .ref (A 11), .int mtolds, .ref (A 12)])), ((A 1), .inl (cy 0, 672, .inl mg)), ((A 2), .inl (cy 0, 672, .inl u1)), ((A 3), .inl (cy 0, 672, .inl mspare)), ((A 4), .inl (cy 0, 672, .inl mtrial)), ((A 5), .inl (cy 0, 5376, .inl mpast)), ((A 6), .inl (cy 0, 6, .inl mreport)), ((A 7), .inl (cy 0, 5, .inl mpart)), ((A 8), .inl (cy 0, 5, .inl mcome)), ((A 9), .inl (cy 0, 60, .inl morder)), ((A 10), .inl (cy 0, 80, .inl mtext)), ((A 11), .inl (cy 0, 200, .inl mtold)), ((A 12), .inl (cy 0, 672, .inl mahead))]) K hR [.ref (A 1), .int 0, .ref (A 2), .int 0] [] (c_X9_copies X.2.1 (gxD X) cy sd (A 1) (A 2) 672 mg 672 mkept 0 0 hw) gX9_save_X9_copies rfl yok_X9_copies rfl (by decide) rfl (Nat.le_of_ble_eq_true rfl) dX9_save_20 [1, 2] rfl (by decide) (fun _ => rfl) (fun _ => rfl) (fun _ => rfl) ⟨rfl, rfl⟩ (fun u1 hw => ?_)
  refine g_aload_n K 0 dX9_save_23 rfl ?_
  refine g_get K (C := RX9) (T := TX9) (N := 22) 0 0 in_X9_save_X9 (by decide +kernel) rfl rfl (by decide) rfl dX9_save_24 ?_
  refine g_iconst (v := 2) K dX9_save_27 rfl ?_
  refine g_iald K 1 0 rfl rfl hw.1 dX9_save_28 ?_
  replace hw := hw.2
  exact g_zret K E Er (mg ((2 : Int32).toNatClampNeg), 1, 0, u1) hw rfl rfl rfl (Nat.le_refl _) (Nat.le_refl _) dX9_save_29

def wp_X9_restore (mg : XRow) (mkept : XRow) (mhasKept : Int32) (mpasts : Int32) (post : (Int32 × Int32 × Int32 × XRow) → Prop) : Prop := (mhasKept = 0 → ((mhasKept = 0 → (post (0, mpasts, 1, mg))) ∧ (¬ mhasKept = 0 → (wp_X9_copies 672 mkept 672 mg 0 0 (fun u1 : XRow => vp_in 2 672 ∧ (post (u1 ((2 : Int32).toNatClampNeg), 0, 1, u1))))))) ∧ (¬ mhasKept = 0 → ((mhasKept = 0 → (post (0, mpasts, 0, mg))) ∧ (¬ mhasKept = 0 → (wp_X9_copies 672 mkept 672 mg 0 0 (fun u2 : XRow => vp_in 2 672 ∧ (post (u2 ((2 : Int32).toNatClampNeg), 0, 0, u2)))))))
theorem in_X9_restore_X9 : ∀ w ∈ u_ws RX9 TX9 22, w ∈ wsX9_restore := by decide +kernel
set_option maxRecDepth 100000 in
set_option maxHeartbeats 4000000 in
theorem c_X9_restore (l : Launch) (D : va_G) (cy : Nat → ClassId) (sd : xSd) (A : Nat → Nat) (mg : XRow) (mkept : XRow) (mspare : XRow) (mtrial : XRow) (mpast : XRow) (mreport : XRow) (mpart : XRow) (mcome : XRow) (morder : XRow) (mtext : XRow) (mtold : XRow) (mahead : XRow) (mhasKept : Int32) (mpasts : Int32) (mreports : Int32) (mthrown : Int32) (mordering : Int32) (mdetail : Int32) (mlength : Int32) (mspot : Int32) (mnumber : Int32) (mtolds : Int32) {post : (Int32 × Int32 × Int32 × XRow) → Prop} (hw : wp_X9_restore mg mkept mhasKept mpasts post) : Ctr l D (xTys cy) sd yX9_restore wsX9_restore ({ frames := 1, cells := 0, slots := 0, locals := 24 } : Room) [.ref (A 0)] (fun u : Int32 × Int32 × Int32 × XRow => some (.int u.1)) [((A 0), .inr (10, [.ref (A 1), .ref (A 2), .ref (A 3), .ref (A 4), .int mhasKept, .ref (A 5), .int mpasts, .ref (A 6), .int mreports, .int mthrown, .ref (A 7), .ref (A 8), .ref (A 9), .int mordering, .int mdetail, .ref (A 10), .int mlength, .int mspot, .int mnumber, .ref (A 11), .int mtolds, .ref (A 12)])), ((A 1), .inl (cy 0, 672, .inl mg)), ((A 2), .inl (cy 0, 672, .inl mkept)), ((A 3), .inl (cy 0, 672, .inl mspare)), ((A 4), .inl (cy 0, 672, .inl mtrial)), ((A 5), .inl (cy 0, 5376, .inl mpast)), ((A 6), .inl (cy 0, 6, .inl mreport)), ((A 7), .inl (cy 0, 5, .inl mpart)), ((A 8), .inl (cy 0, 5, .inl mcome)), ((A 9), .inl (cy 0, 60, .inl morder)), ((A 10), .inl (cy 0, 80, .inl mtext)), ((A 11), .inl (cy 0, 200, .inl mtold)), ((A 12), .inl (cy 0, 672, .inl mahead))] (fun u => [((A 0), .inr (10, [.ref (A 1), .ref (A 2), .ref (A 3), .ref (A 4), .int mhasKept, .ref (A 5), .int u.2.1, .ref (A 6), .int mreports, .int u.2.2.1, .ref (A 7), .ref (A 8), .ref (A 9), .int mordering, .int mdetail, .ref (A 10), .int mlength, .int mspot, .int mnumber, .ref (A 11), .int mtolds, .ref (A 12)])), ((A 1), .inl (cy 0, 672, .inl u.2.2.2)), ((A 2), .inl (cy 0, 672, .inl mkept)), ((A 3), .inl (cy 0, 672, .inl mspare)), ((A 4), .inl (cy 0, 672, .inl mtrial)), ((A 5), .inl (cy 0, 5376, .inl mpast)), ((A 6), .inl (cy 0, 6, .inl mreport)), ((A 7), .inl (cy 0, 5, .inl mpart)), ((A 8), .inl (cy 0, 5, .inl mcome)), ((A 9), .inl (cy 0, 60, .inl morder)), ((A 10), .inl (cy 0, 80, .inl mtext)), ((A 11), .inl (cy 0, 200, .inl mtold)), ((A 12), .inl (cy 0, 672, .inl mahead))]) post := by
  refine Ctr.of (cc := cX9_restore) (maxL := 1) (ret := (some .int)) (lv0 := [(0, .ref (A 0))]) (by decide) rfl (Nat.le_of_ble_eq_true rfl) rfl ?_
  intro X El hR Er Enm ED E En K
  have K : Cx X cX9_restore RX9 wsX9_restore (xTys cy) sd := K
  have E : X.2.2.2.2.2.2.2.2.2.2.1 = xMQ X (fun u : Int32 × Int32 × Int32 × XRow => some (.int u.1)) post (fun u => [((A 0), .inr (10, [.ref (A 1), .ref (A 2), .ref (A 3), .ref (A 4), .int mhasKept, .ref (A 5), .int u.2.1, .ref (A 6), .int mreports, .int u.2.2.1, .ref (A 7), .ref (A 8), .ref (A 9), .int mordering, .int mdetail, .ref (A 10), .int mlength, .int mspot, .int mnumber, .ref (A 11), .int mtolds, .ref (A 12)])), ((A 1), .inl (cy 0, 672, .inl u.2.2.2)), ((A 2), .inl (cy 0, 672, .inl mkept)), ((A 3), .inl (cy 0, 672, .inl mspare)), ((A 4), .inl (cy 0, 672, .inl mtrial)), ((A 5), .inl (cy 0, 5376, .inl mpast)), ((A 6), .inl (cy 0, 6, .inl mreport)), ((A 7), .inl (cy 0, 5, .inl mpart)), ((A 8), .inl (cy 0, 5, .inl mcome)), ((A 9), .inl (cy 0, 60, .inl morder)), ((A 10), .inl (cy 0, 80, .inl mtext)), ((A 11), .inl (cy 0, 200, .inl mtold)), ((A 12), .inl (cy 0, 672, .inl mahead))]) 0 0 := E
  unfold wp_X9_restore at hw
  refine g_aload_n K 0 dX9_restore_0 rfl ?_
  refine g_aload_n K 0 dX9_restore_1 rfl ?_
  refine g_get K (C := RX9) (T := TX9) (N := 22) 0 4 in_X9_restore_X9 (by decide +kernel) rfl rfl (by decide) rfl dX9_restore_2 ?_
  refine g_if_eq (tgt := 12) K dX9_restore_5 (by decide) (fun hc => ?_) (fun hc => ?_)
  · replace hw := hw.1 hc
    refine g_iconst (v := 1) K dX9_restore_12 rfl ?_
    refine g_put (ty := .int) (ws' := [((A 0), .inr (10, [.ref (A 1), .ref (A 2), .ref (A 3), .ref (A 4), .int mhasKept, .ref (A 5), .int mpasts, .ref (A 6), .int mreports, .int 1, .ref (A 7), .ref (A 8), .ref (A 9), .int mordering, .int mdetail, .ref (A 10), .int mlength, .int mspot, .int mnumber, .ref (A 11), .int mtolds, .ref (A 12)])), ((A 1), .inl (cy 0, 672, .inl mg)), ((A 2), .inl (cy 0, 672, .inl mkept)), ((A 3), .inl (cy 0, 672, .inl mspare)), ((A 4), .inl (cy 0, 672, .inl mtrial)), ((A 5), .inl (cy 0, 5376, .inl mpast)), ((A 6), .inl (cy 0, 6, .inl mreport)), ((A 7), .inl (cy 0, 5, .inl mpart)), ((A 8), .inl (cy 0, 5, .inl mcome)), ((A 9), .inl (cy 0, 60, .inl morder)), ((A 10), .inl (cy 0, 80, .inl mtext)), ((A 11), .inl (cy 0, 200, .inl mtold)), ((A 12), .inl (cy 0, 672, .inl mahead))]) K (C := RX9) (T := TX9) (N := 22) 0 9 in_X9_restore_X9 tyX9 tyX9_ok nmX9 (by decide +kernel) rfl rfl (by decide) rfl (by decide +kernel) rfl rfl (Nat.le_of_ble_eq_true rfl) rfl dX9_restore_13 ?_
    refine g_aload_n K 0 dX9_restore_16 rfl ?_
    refine g_get K (C := RX9) (T := TX9) (N := 22) 0 4 in_X9_restore_X9 (by decide +kernel) rfl rfl (by decide) rfl dX9_restore_17 ?_
    refine g_if_ne (tgt := 25) K dX9_restore_20 (by decide) (fun hc => ?_) (fun hc => ?_)
    · replace hw := hw.2 hc
      refine g_aload_n K 0 dX9_restore_25 rfl ?_
      refine g_get K (C := RX9) (T := TX9) (N := 22) 0 1 in_X9_restore_X9 (by decide +kernel) rfl rfl (by decide) rfl dX9_restore_26 ?_
      refine g_iconst (v := 0) K dX9_restore_29 rfl ?_
      refine g_aload_n K 0 dX9_restore_30 rfl ?_
      refine g_get K (C := RX9) (T := TX9) (N := 22) 0 0 in_X9_restore_X9 (by decide +kernel) rfl rfl (by decide) rfl dX9_restore_31 ?_
      refine g_iconst (v := 0) K dX9_restore_34 rfl ?_
      refine g_callS (st' := fun u1 => []) (ws' := fun u1 => [((A 0), .inr (10, [.ref (A 1), .ref (A 2), .ref (A 3), .ref (A 4), .int mhasKept, .ref (A 5), .int mpasts, .ref (A 6), .int mreports, .int 1, .ref (A 7), .ref (A 8), .ref (A 9), .int mordering, .int mdetail, .ref (A 10), .int mlength, .int mspot, .int mnumber, .ref (A 11), .int mtolds, .ref (A 12)])), ((A 1), .inl (cy 0, 672, .inl u1)), ((A 2), .inl (cy 0, 672, .inl mkept)), ((A 3), .inl (cy 0, 672, .inl mspare)), ((A 4), .inl (cy 0, 672, .inl mtrial)), ((A 5), .inl (cy 0, 5376, .inl mpast)), ((A 6), .inl (cy 0, 6, .inl mreport)), ((A 7), .inl (cy 0, 5, .inl mpart)), ((A 8), .inl (cy 0, 5, .inl mcome)), ((A 9), .inl (cy 0, 60, .inl morder)), ((A 10), .inl (cy 0, 80, .inl mtext)), ((A 11), .inl (cy 0, 200, .inl mtold)), ((A 12), .inl (cy 0, 672, .inl mahead))]) K hR [.ref (A 2), .int 0, .ref (A 1), .int 0] [] (c_X9_copies X.2.1 (gxD X) cy sd (A 2) (A 1) 672 mkept 672 mg 0 0 hw) gX9_restore_X9_copies rfl yok_X9_copies rfl (by decide) rfl (Nat.le_of_ble_eq_true rfl) dX9_restore_35 [2, 1] rfl (by decide) (fun _ => rfl) (fun _ => rfl) (fun _ => rfl) ⟨rfl, rfl⟩ (fun u1 hw => ?_)
      refine g_aload_n K 0 dX9_restore_38 rfl ?_
      refine g_iconst (v := 0) K dX9_restore_39 rfl ?_
      refine g_put (ty := .int) (ws' := [((A 0), .inr (10, [.ref (A 1), .ref (A 2), .ref (A 3), .ref (A 4), .int mhasKept, .ref (A 5), .int 0, .ref (A 6), .int mreports, .int 1, .ref (A 7), .ref (A 8), .ref (A 9), .int mordering, .int mdetail, .ref (A 10), .int mlength, .int mspot, .int mnumber, .ref (A 11), .int mtolds, .ref (A 12)])), ((A 1), .inl (cy 0, 672, .inl u1)), ((A 2), .inl (cy 0, 672, .inl mkept)), ((A 3), .inl (cy 0, 672, .inl mspare)), ((A 4), .inl (cy 0, 672, .inl mtrial)), ((A 5), .inl (cy 0, 5376, .inl mpast)), ((A 6), .inl (cy 0, 6, .inl mreport)), ((A 7), .inl (cy 0, 5, .inl mpart)), ((A 8), .inl (cy 0, 5, .inl mcome)), ((A 9), .inl (cy 0, 60, .inl morder)), ((A 10), .inl (cy 0, 80, .inl mtext)), ((A 11), .inl (cy 0, 200, .inl mtold)), ((A 12), .inl (cy 0, 672, .inl mahead))]) K (C := RX9) (T := TX9) (N := 22) 0 6 in_X9_restore_X9 tyX9 tyX9_ok nmX9 (by decide +kernel) rfl rfl (by decide) rfl (by decide +kernel) rfl rfl (Nat.le_of_ble_eq_true rfl) rfl dX9_restore_40 ?_
      refine g_aload_n K 0 dX9_restore_43 rfl ?_
      refine g_get K (C := RX9) (T := TX9) (N := 22) 0 0 in_X9_restore_X9 (by decide +kernel) rfl rfl (by decide) rfl dX9_restore_44 ?_
      refine g_iconst (v := 2) K dX9_restore_47 rfl ?_
      refine g_iald K 1 0 rfl rfl hw.1 dX9_restore_48 ?_
      replace hw := hw.2
      exact g_zret K E Er (u1 ((2 : Int32).toNatClampNeg), 0, 1, u1) hw rfl rfl rfl (Nat.le_refl _) (Nat.le_refl _) dX9_restore_49
    · replace hw := hw.1 hc
      refine g_iconst (v := 0) K dX9_restore_23 rfl ?_
      exact g_zret K E Er (0, mpasts, 1, mg) hw rfl rfl rfl (Nat.le_refl _) (Nat.le_refl _) dX9_restore_24
  · replace hw := hw.2 hc
    refine g_iconst (v := 0) K dX9_restore_8 rfl ?_
    refine g_goto (tgt := 13) K dX9_restore_9 (by decide) ?_
    refine g_put (ty := .int) (ws' := [((A 0), .inr (10, [.ref (A 1), .ref (A 2), .ref (A 3), .ref (A 4), .int mhasKept, .ref (A 5), .int mpasts, .ref (A 6), .int mreports, .int 0, .ref (A 7), .ref (A 8), .ref (A 9), .int mordering, .int mdetail, .ref (A 10), .int mlength, .int mspot, .int mnumber, .ref (A 11), .int mtolds, .ref (A 12)])), ((A 1), .inl (cy 0, 672, .inl mg)), ((A 2), .inl (cy 0, 672, .inl mkept)), ((A 3), .inl (cy 0, 672, .inl mspare)), ((A 4), .inl (cy 0, 672, .inl mtrial)), ((A 5), .inl (cy 0, 5376, .inl mpast)), ((A 6), .inl (cy 0, 6, .inl mreport)), ((A 7), .inl (cy 0, 5, .inl mpart)), ((A 8), .inl (cy 0, 5, .inl mcome)), ((A 9), .inl (cy 0, 60, .inl morder)), ((A 10), .inl (cy 0, 80, .inl mtext)), ((A 11), .inl (cy 0, 200, .inl mtold)), ((A 12), .inl (cy 0, 672, .inl mahead))]) K (C := RX9) (T := TX9) (N := 22) 0 9 in_X9_restore_X9 tyX9 tyX9_ok nmX9 (by decide +kernel) rfl rfl (by decide) rfl (by decide +kernel) rfl rfl (Nat.le_of_ble_eq_true rfl) rfl dX9_restore_13 ?_
    refine g_aload_n K 0 dX9_restore_16 rfl ?_
    refine g_get K (C := RX9) (T := TX9) (N := 22) 0 4 in_X9_restore_X9 (by decide +kernel) rfl rfl (by decide) rfl dX9_restore_17 ?_
    refine g_if_ne (tgt := 25) K dX9_restore_20 (by decide) (fun hc => ?_) (fun hc => ?_)
    · replace hw := hw.2 hc
      refine g_aload_n K 0 dX9_restore_25 rfl ?_
      refine g_get K (C := RX9) (T := TX9) (N := 22) 0 1 in_X9_restore_X9 (by decide +kernel) rfl rfl (by decide) rfl dX9_restore_26 ?_
      refine g_iconst (v := 0) K dX9_restore_29 rfl ?_
      refine g_aload_n K 0 dX9_restore_30 rfl ?_
      refine g_get K (C := RX9) (T := TX9) (N := 22) 0 0 in_X9_restore_X9 (by decide +kernel) rfl rfl (by decide) rfl dX9_restore_31 ?_
      refine g_iconst (v := 0) K dX9_restore_34 rfl ?_
      refine g_callS (st' := fun u2 => []) (ws' := fun u2 => [((A 0), .inr (10, [.ref (A 1), .ref (A 2), .ref (A 3), .ref (A 4), .int mhasKept, .ref (A 5), .int mpasts, .ref (A 6), .int mreports, .int 0, .ref (A 7), .ref (A 8), .ref (A 9), .int mordering, .int mdetail, .ref (A 10), .int mlength, .int mspot, .int mnumber, .ref (A 11), .int mtolds, .ref (A 12)])), ((A 1), .inl (cy 0, 672, .inl u2)), ((A 2), .inl (cy 0, 672, .inl mkept)), ((A 3), .inl (cy 0, 672, .inl mspare)), ((A 4), .inl (cy 0, 672, .inl mtrial)), ((A 5), .inl (cy 0, 5376, .inl mpast)), ((A 6), .inl (cy 0, 6, .inl mreport)), ((A 7), .inl (cy 0, 5, .inl mpart)), ((A 8), .inl (cy 0, 5, .inl mcome)), ((A 9), .inl (cy 0, 60, .inl morder)), ((A 10), .inl (cy 0, 80, .inl mtext)), ((A 11), .inl (cy 0, 200, .inl mtold)), ((A 12), .inl (cy 0, 672, .inl mahead))]) K hR [.ref (A 2), .int 0, .ref (A 1), .int 0] [] (c_X9_copies X.2.1 (gxD X) cy sd (A 2) (A 1) 672 mkept 672 mg 0 0 hw) gX9_restore_X9_copies rfl yok_X9_copies rfl (by decide) rfl (Nat.le_of_ble_eq_true rfl) dX9_restore_35 [2, 1] rfl (by decide) (fun _ => rfl) (fun _ => rfl) (fun _ => rfl) ⟨rfl, rfl⟩ (fun u2 hw => ?_)
      refine g_aload_n K 0 dX9_restore_38 rfl ?_
      refine g_iconst (v := 0) K dX9_restore_39 rfl ?_
      refine g_put (ty := .int) (ws' := [((A 0), .inr (10, [.ref (A 1), .ref (A 2), .ref (A 3), .ref (A 4), .int mhasKept, .ref (A 5), .int 0, .ref (A 6), .int mreports, .int 0, .ref (A 7), .ref (A 8), .ref (A 9), .int mordering, .int mdetail, .ref (A 10), .int mlength, .int mspot, .int mnumber, .ref (A 11), .int mtolds, .ref (A 12)])), ((A 1), .inl (cy 0, 672, .inl u2)), ((A 2), .inl (cy 0, 672, .inl mkept)), ((A 3), .inl (cy 0, 672, .inl mspare)), ((A 4), .inl (cy 0, 672, .inl mtrial)), ((A 5), .inl (cy 0, 5376, .inl mpast)), ((A 6), .inl (cy 0, 6, .inl mreport)), ((A 7), .inl (cy 0, 5, .inl mpart)), ((A 8), .inl (cy 0, 5, .inl mcome)), ((A 9), .inl (cy 0, 60, .inl morder)), ((A 10), .inl (cy 0, 80, .inl mtext)), ((A 11), .inl (cy 0, 200, .inl mtold)), ((A 12), .inl (cy 0, 672, .inl mahead))]) K (C := RX9) (T := TX9) (N := 22) 0 6 in_X9_restore_X9 tyX9 tyX9_ok nmX9 (by decide +kernel) rfl rfl (by decide) rfl (by decide +kernel) rfl rfl (Nat.le_of_ble_eq_true rfl) rfl dX9_restore_40 ?_
      refine g_aload_n K 0 dX9_restore_43 rfl ?_
      refine g_get K (C := RX9) (T := TX9) (N := 22) 0 0 in_X9_restore_X9 (by decide +kernel) rfl rfl (by decide) rfl dX9_restore_44 ?_
      refine g_iconst (v := 2) K dX9_restore_47 rfl ?_
      refine g_iald K 1 0 rfl rfl hw.1 dX9_restore_48 ?_
      replace hw := hw.2
      exact g_zret K E Er (u2 ((2 : Int32).toNatClampNeg), 0, 0, u2) hw rfl rfl rfl (Nat.le_refl _) (Nat.le_refl _) dX9_restore_49
    · replace hw := hw.1 hc
      refine g_iconst (v := 0) K dX9_restore_23 rfl ?_
      exact g_zret K E Er (0, mpasts, 0, mg) hw rfl rfl rfl (Nat.le_refl _) (Nat.le_refl _) dX9_restore_24

def wp_X9_mayBe (p0 : Int32) (p1 : Int32) (post : Bool → Prop) : Prop := (p0 = 0 → (wp_X9_isMaterial p1 (fun u5 : Bool => post u5))) ∧ (¬ p0 = 0 → ((p0 = 1 → (wp_X9_in p1 10 100 (fun u4 : Bool => post u4))) ∧ (¬ p0 = 1 → ((p0 = 2 → (wp_X9_in p1 0 90 (fun u3 : Bool => post u3))) ∧ (¬ p0 = 2 → ((p0 = 3 → (wp_X9_in p1 1 500 (fun u2 : Bool => post u2))) ∧ (¬ p0 = 3 → ((p0 = 4 → (wp_X9_in p1 0 9 (fun u1 : Bool => (u1 = true → (post true)) ∧ (u1 = false → (post false))))) ∧ (¬ p0 = 4 → (post false))))))))))
set_option maxRecDepth 100000 in
set_option maxHeartbeats 4000000 in
theorem c_X9_mayBe (l : Launch) (D : va_G) (cy : Nat → ClassId) (sd : xSd)  (p0 : Int32) (p1 : Int32) {post : Bool → Prop} (hw : wp_X9_mayBe p0 p1 post) : Ctr l D (xTys cy) sd yX9_mayBe wsX9_mayBe ({ frames := 2, cells := 0, slots := 0, locals := 42 } : Room) [.int p0, .int p1] (fun u : Bool => some (.int (bI u))) [] (fun _ => []) post := by
  refine Ctr.of (cc := cX9_mayBe) (maxL := 2) (ret := (some .boolean)) (lv0 := [(0, .int p0), (1, .int p1)]) (by decide) rfl (Nat.le_of_ble_eq_true rfl) rfl ?_
  intro X El hR Er Enm ED E En K
  have K : Cx X cX9_mayBe RX9 wsX9_mayBe (xTys cy) sd := K
  have E : X.2.2.2.2.2.2.2.2.2.2.1 = xMQ X (fun u : Bool => some (.int (bI u))) post (fun _ => []) 0 0 := E
  unfold wp_X9_mayBe at hw
  refine g_iload_n K 0 dX9_mayBe_0 rfl ?_
  refine g_if_ne (tgt := 11) K dX9_mayBe_1 (by decide) (fun hc => ?_) (fun hc => ?_)
  · replace hw := hw.2 hc
    refine g_iload_n K 0 dX9_mayBe_11 rfl ?_
    refine g_iconst (v := 1) K dX9_mayBe_12 rfl ?_
    refine g_icmp_ne (tgt := 27) K dX9_mayBe_13 (by decide) (fun hc => ?_) (fun hc => ?_)
    · replace hw := hw.2 hc
      refine g_iload_n K 0 dX9_mayBe_27 rfl ?_
      refine g_iconst (v := 2) K dX9_mayBe_28 rfl ?_
      refine g_icmp_ne (tgt := 42) K dX9_mayBe_29 (by decide) (fun hc => ?_) (fun hc => ?_)
      · replace hw := hw.2 hc
        refine g_iload_n K 0 dX9_mayBe_42 rfl ?_
        refine g_iconst (v := 3) K dX9_mayBe_43 rfl ?_
        refine g_icmp_ne (tgt := 58) K dX9_mayBe_44 (by decide) (fun hc => ?_) (fun hc => ?_)
        · replace hw := hw.2 hc
          refine g_iload_n K 0 dX9_mayBe_58 rfl ?_
          refine g_iconst (v := 4) K dX9_mayBe_59 rfl ?_
          refine g_icmp_ne (tgt := 77) K dX9_mayBe_60 (by decide) (fun hc => ?_) (fun hc => ?_)
          · replace hw := hw.2 hc
            refine g_iconst (v := 0) K dX9_mayBe_77 rfl ?_
            exact g_zret K E Er false hw rfl rfl rfl (Nat.le_refl _) (Nat.le_refl _) dX9_mayBe_78
          · replace hw := hw.1 hc
            refine g_iload_n K 1 dX9_mayBe_63 rfl ?_
            refine g_iconst (v := 0) K dX9_mayBe_64 rfl ?_
            refine g_bipush (v := 9) K dX9_mayBe_65 rfl ?_
            refine g_callSr (st' := fun u1 => [.int (bI u1)]) K hR [.int p1, .int 0, .int 9] [] (c_X9_in X.2.1 (gxD X) cy sd p1 0 9 hw) gX9_mayBe_X9_in rfl yok_X9_in rfl (by decide) rfl (Nat.le_of_ble_eq_true rfl) dX9_mayBe_67 [] rfl (by decide) (fun _ => rfl) ⟨rfl, rfl⟩ (fun u1 hw => ?_)
            refine g_ifb_eq (tgt := 77) K dX9_mayBe_70 (by decide) (fun hc => ?_) (fun hc => ?_)
            · replace hw := hw.2 hc
              refine g_iconst (v := 0) K dX9_mayBe_77 rfl ?_
              exact g_zret K E Er false hw rfl rfl rfl (Nat.le_refl _) (Nat.le_refl _) dX9_mayBe_78
            · replace hw := hw.1 hc
              refine g_iconst (v := 1) K dX9_mayBe_73 rfl ?_
              refine g_goto (tgt := 78) K dX9_mayBe_74 (by decide) ?_
              exact g_zret K E Er true hw rfl rfl rfl (Nat.le_refl _) (Nat.le_refl _) dX9_mayBe_78
        · replace hw := hw.1 hc
          refine g_iload_n K 1 dX9_mayBe_47 rfl ?_
          refine g_iconst (v := 1) K dX9_mayBe_48 rfl ?_
          refine g_sipush (v := 500) K dX9_mayBe_49 rfl ?_
          refine g_callSr (st' := fun u2 => [.int (bI u2)]) K hR [.int p1, .int 1, .int 500] [] (c_X9_in X.2.1 (gxD X) cy sd p1 1 500 hw) gX9_mayBe_X9_in rfl yok_X9_in rfl (by decide) rfl (Nat.le_of_ble_eq_true rfl) dX9_mayBe_52 [] rfl (by decide) (fun _ => rfl) ⟨rfl, rfl⟩ (fun u2 hw => ?_)
          refine g_goto (tgt := 78) K dX9_mayBe_55 (by decide) ?_
          exact g_zret K E Er u2 hw rfl (bI_narrow _) rfl (Nat.le_refl _) (Nat.le_refl _) dX9_mayBe_78
      · replace hw := hw.1 hc
        refine g_iload_n K 1 dX9_mayBe_32 rfl ?_
        refine g_iconst (v := 0) K dX9_mayBe_33 rfl ?_
        refine g_bipush (v := 90) K dX9_mayBe_34 rfl ?_
        refine g_callSr (st' := fun u3 => [.int (bI u3)]) K hR [.int p1, .int 0, .int 90] [] (c_X9_in X.2.1 (gxD X) cy sd p1 0 90 hw) gX9_mayBe_X9_in rfl yok_X9_in rfl (by decide) rfl (Nat.le_of_ble_eq_true rfl) dX9_mayBe_36 [] rfl (by decide) (fun _ => rfl) ⟨rfl, rfl⟩ (fun u3 hw => ?_)
        refine g_goto (tgt := 78) K dX9_mayBe_39 (by decide) ?_
        exact g_zret K E Er u3 hw rfl (bI_narrow _) rfl (Nat.le_refl _) (Nat.le_refl _) dX9_mayBe_78
    · replace hw := hw.1 hc
      refine g_iload_n K 1 dX9_mayBe_16 rfl ?_
      refine g_bipush (v := 10) K dX9_mayBe_17 rfl ?_
      refine g_bipush (v := 100) K dX9_mayBe_19 rfl ?_
      refine g_callSr (st' := fun u4 => [.int (bI u4)]) K hR [.int p1, .int 10, .int 100] [] (c_X9_in X.2.1 (gxD X) cy sd p1 10 100 hw) gX9_mayBe_X9_in rfl yok_X9_in rfl (by decide) rfl (Nat.le_of_ble_eq_true rfl) dX9_mayBe_21 [] rfl (by decide) (fun _ => rfl) ⟨rfl, rfl⟩ (fun u4 hw => ?_)
      refine g_goto (tgt := 78) K dX9_mayBe_24 (by decide) ?_
      exact g_zret K E Er u4 hw rfl (bI_narrow _) rfl (Nat.le_refl _) (Nat.le_refl _) dX9_mayBe_78
  · replace hw := hw.1 hc
    refine g_iload_n K 1 dX9_mayBe_4 rfl ?_
    refine g_callSr (st' := fun u5 => [.int (bI u5)]) K hR [.int p1] [] (c_X9_isMaterial X.2.1 (gxD X) cy sd p1 hw) gX9_mayBe_X9_isMaterial rfl yok_X9_isMaterial rfl (by decide) rfl (Nat.le_of_ble_eq_true rfl) dX9_mayBe_5 [] rfl (by decide) (fun _ => rfl) ⟨rfl, rfl⟩ (fun u5 hw => ?_)
    refine g_goto (tgt := 78) K dX9_mayBe_8 (by decide) ?_
    exact g_zret K E Er u5 hw rfl (bI_narrow _) rfl (Nat.le_refl _) (Nat.le_refl _) dX9_mayBe_78

def wp_X9_changes_o1_L11  (k11_40 : Int32 → XRow → Prop) : Nat → Int32 → XRow → Prop
  | 0, _, _ => False
  | fu + 1, v3, v4 => (4704 ≤ v3 → (k11_40 v3 v4)) ∧ (¬ 4704 ≤ v3 → (vp_in (v3 + 672) 5376 ∧ (vp_in v3 5376 ∧ (∀ x5 : Int32, x5 = v3 + 1 → (wp_X9_changes_o1_L11 k11_40 fu x5 (upd v4 (v3).toNatClampNeg (v4 (v3 + 672).toNatClampNeg)))))))
def wp_X9_changes_o1 (mg : XRow) (mpast : XRow) (mpasts : Int32) (post : (Int32 × XRow) → Prop) : Prop := (mpasts = 8 → (∃ fl, wp_X9_changes_o1_L11  (fun (v6 : Int32) (v7 : XRow) => ∀ x8 : Int32, x8 = mpasts - 1 → (wp_X9_copies 672 mg 5376 v7 0 (672 * x8) (fun u9 : XRow => ∀ x10 : Int32, x10 = x8 + 1 → (post (x10, u9))))) fl 0 mpast)) ∧ (¬ mpasts = 8 → (wp_X9_copies 672 mg 5376 mpast 0 (672 * mpasts) (fun u1 : XRow => ∀ x2 : Int32, x2 = mpasts + 1 → (post (x2, u1)))))
theorem in_X9_changes_o1_X9 : ∀ w ∈ u_ws RX9 TX9 22, w ∈ wsX9_changes := by decide +kernel
set_option maxRecDepth 100000 in
set_option maxHeartbeats 4000000 in
theorem c_X9_changes_o1 (l : Launch) (D : va_G) (cy : Nat → ClassId) (sd : xSd) (A : Nat → Nat) (mg : XRow) (mkept : XRow) (mspare : XRow) (mtrial : XRow) (mpast : XRow) (mreport : XRow) (mpart : XRow) (mcome : XRow) (morder : XRow) (mtext : XRow) (mtold : XRow) (mahead : XRow) (mhasKept : Int32) (mpasts : Int32) (mreports : Int32) (mthrown : Int32) (mordering : Int32) (mdetail : Int32) (mlength : Int32) (mspot : Int32) (mnumber : Int32) (mtolds : Int32) {post : (Int32 × XRow) → Prop} (hw : wp_X9_changes_o1 mg mpast mpasts post) : Ctr l D (xTys cy) sd yX9_changes wsX9_changes ({ frames := 1, cells := 0, slots := 0, locals := 24 } : Room) [.ref (A 0), .ref (A 1)] (fun u : Int32 × XRow => none) [((A 0), .inr (10, [.ref (A 1), .ref (A 2), .ref (A 3), .ref (A 4), .int mhasKept, .ref (A 5), .int mpasts, .ref (A 6), .int mreports, .int mthrown, .ref (A 7), .ref (A 8), .ref (A 9), .int mordering, .int mdetail, .ref (A 10), .int mlength, .int mspot, .int mnumber, .ref (A 11), .int mtolds, .ref (A 12)])), ((A 1), .inl (cy 0, 672, .inl mg)), ((A 2), .inl (cy 0, 672, .inl mkept)), ((A 3), .inl (cy 0, 672, .inl mspare)), ((A 4), .inl (cy 0, 672, .inl mtrial)), ((A 5), .inl (cy 0, 5376, .inl mpast)), ((A 6), .inl (cy 0, 6, .inl mreport)), ((A 7), .inl (cy 0, 5, .inl mpart)), ((A 8), .inl (cy 0, 5, .inl mcome)), ((A 9), .inl (cy 0, 60, .inl morder)), ((A 10), .inl (cy 0, 80, .inl mtext)), ((A 11), .inl (cy 0, 200, .inl mtold)), ((A 12), .inl (cy 0, 672, .inl mahead))] (fun u => [((A 0), .inr (10, [.ref (A 1), .ref (A 2), .ref (A 3), .ref (A 4), .int mhasKept, .ref (A 5), .int u.1, .ref (A 6), .int mreports, .int mthrown, .ref (A 7), .ref (A 8), .ref (A 9), .int mordering, .int mdetail, .ref (A 10), .int mlength, .int mspot, .int mnumber, .ref (A 11), .int mtolds, .ref (A 12)])), ((A 1), .inl (cy 0, 672, .inl mg)), ((A 2), .inl (cy 0, 672, .inl mkept)), ((A 3), .inl (cy 0, 672, .inl mspare)), ((A 4), .inl (cy 0, 672, .inl mtrial)), ((A 5), .inl (cy 0, 5376, .inl u.2)), ((A 6), .inl (cy 0, 6, .inl mreport)), ((A 7), .inl (cy 0, 5, .inl mpart)), ((A 8), .inl (cy 0, 5, .inl mcome)), ((A 9), .inl (cy 0, 60, .inl morder)), ((A 10), .inl (cy 0, 80, .inl mtext)), ((A 11), .inl (cy 0, 200, .inl mtold)), ((A 12), .inl (cy 0, 672, .inl mahead))]) post := by
  refine Ctr.of (cc := cX9_changes) (maxL := 3) (ret := none) (lv0 := [(0, .ref (A 0)), (1, .ref (A 1))]) (by decide) rfl (Nat.le_of_ble_eq_true rfl) rfl ?_
  intro X El hR Er Enm ED E En K
  have K : Cx X cX9_changes RX9 wsX9_changes (xTys cy) sd := K
  have E : X.2.2.2.2.2.2.2.2.2.2.1 = xMQ X (fun u : Int32 × XRow => none) post (fun u => [((A 0), .inr (10, [.ref (A 1), .ref (A 2), .ref (A 3), .ref (A 4), .int mhasKept, .ref (A 5), .int u.1, .ref (A 6), .int mreports, .int mthrown, .ref (A 7), .ref (A 8), .ref (A 9), .int mordering, .int mdetail, .ref (A 10), .int mlength, .int mspot, .int mnumber, .ref (A 11), .int mtolds, .ref (A 12)])), ((A 1), .inl (cy 0, 672, .inl mg)), ((A 2), .inl (cy 0, 672, .inl mkept)), ((A 3), .inl (cy 0, 672, .inl mspare)), ((A 4), .inl (cy 0, 672, .inl mtrial)), ((A 5), .inl (cy 0, 5376, .inl u.2)), ((A 6), .inl (cy 0, 6, .inl mreport)), ((A 7), .inl (cy 0, 5, .inl mpart)), ((A 8), .inl (cy 0, 5, .inl mcome)), ((A 9), .inl (cy 0, 60, .inl morder)), ((A 10), .inl (cy 0, 80, .inl mtext)), ((A 11), .inl (cy 0, 200, .inl mtold)), ((A 12), .inl (cy 0, 672, .inl mahead))]) 0 0 := E
  unfold wp_X9_changes_o1 at hw
  refine g_aload_n K 0 dX9_changes_0 rfl ?_
  refine g_get K (C := RX9) (T := TX9) (N := 22) 0 6 in_X9_changes_o1_X9 (by decide +kernel) rfl rfl (by decide) rfl dX9_changes_1 ?_
  refine g_bipush (v := 8) K dX9_changes_4 rfl ?_
  refine g_icmp_ne (tgt := 50) K dX9_changes_6 (by decide) (fun hc => ?_) (fun hc => ?_)
  · replace hw := hw.2 hc
    refine g_aload_n K 1 dX9_changes_50 rfl ?_
    refine g_iconst (v := 0) K dX9_changes_51 rfl ?_
    refine g_aload_n K 0 dX9_changes_52 rfl ?_
    refine g_get K (C := RX9) (T := TX9) (N := 22) 0 5 in_X9_changes_o1_X9 (by decide +kernel) rfl rfl (by decide) rfl dX9_changes_53 ?_
    refine g_sipush (v := 672) K dX9_changes_56 rfl ?_
    refine g_aload_n K 0 dX9_changes_59 rfl ?_
    refine g_get K (C := RX9) (T := TX9) (N := 22) 0 6 in_X9_changes_o1_X9 (by decide +kernel) rfl rfl (by decide) rfl dX9_changes_60 ?_
    refine g_imul K dX9_changes_63 ?_
    refine g_callS (st' := fun u1 => []) (ws' := fun u1 => [((A 0), .inr (10, [.ref (A 1), .ref (A 2), .ref (A 3), .ref (A 4), .int mhasKept, .ref (A 5), .int mpasts, .ref (A 6), .int mreports, .int mthrown, .ref (A 7), .ref (A 8), .ref (A 9), .int mordering, .int mdetail, .ref (A 10), .int mlength, .int mspot, .int mnumber, .ref (A 11), .int mtolds, .ref (A 12)])), ((A 1), .inl (cy 0, 672, .inl mg)), ((A 2), .inl (cy 0, 672, .inl mkept)), ((A 3), .inl (cy 0, 672, .inl mspare)), ((A 4), .inl (cy 0, 672, .inl mtrial)), ((A 5), .inl (cy 0, 5376, .inl u1)), ((A 6), .inl (cy 0, 6, .inl mreport)), ((A 7), .inl (cy 0, 5, .inl mpart)), ((A 8), .inl (cy 0, 5, .inl mcome)), ((A 9), .inl (cy 0, 60, .inl morder)), ((A 10), .inl (cy 0, 80, .inl mtext)), ((A 11), .inl (cy 0, 200, .inl mtold)), ((A 12), .inl (cy 0, 672, .inl mahead))]) K hR [.ref (A 1), .int 0, .ref (A 5), .int (672 * mpasts)] [] (c_X9_copies X.2.1 (gxD X) cy sd (A 1) (A 5) 672 mg 5376 mpast 0 (672 * mpasts) hw) gX9_changes_X9_copies rfl yok_X9_copies rfl (by decide) rfl (Nat.le_of_ble_eq_true rfl) dX9_changes_64 [1, 5] rfl (by decide) (fun _ => rfl) (fun _ => rfl) (fun _ => rfl) ⟨rfl, rfl⟩ (fun u1 hw => ?_)
    refine g_aload_n K 0 dX9_changes_67 rfl ?_
    refine g_dup K dX9_changes_68 rfl ?_
    refine g_get K (C := RX9) (T := TX9) (N := 22) 0 6 in_X9_changes_o1_X9 (by decide +kernel) rfl rfl (by decide) rfl dX9_changes_69 ?_
    refine g_iconst (v := 1) K dX9_changes_72 rfl ?_
    refine g_iadd K dX9_changes_73 ?_
    refine g_topi (fun x2 ex2 => ?_)
    replace hw := hw x2 ex2
    refine g_put (ty := .int) (ws' := [((A 0), .inr (10, [.ref (A 1), .ref (A 2), .ref (A 3), .ref (A 4), .int mhasKept, .ref (A 5), .int x2, .ref (A 6), .int mreports, .int mthrown, .ref (A 7), .ref (A 8), .ref (A 9), .int mordering, .int mdetail, .ref (A 10), .int mlength, .int mspot, .int mnumber, .ref (A 11), .int mtolds, .ref (A 12)])), ((A 1), .inl (cy 0, 672, .inl mg)), ((A 2), .inl (cy 0, 672, .inl mkept)), ((A 3), .inl (cy 0, 672, .inl mspare)), ((A 4), .inl (cy 0, 672, .inl mtrial)), ((A 5), .inl (cy 0, 5376, .inl u1)), ((A 6), .inl (cy 0, 6, .inl mreport)), ((A 7), .inl (cy 0, 5, .inl mpart)), ((A 8), .inl (cy 0, 5, .inl mcome)), ((A 9), .inl (cy 0, 60, .inl morder)), ((A 10), .inl (cy 0, 80, .inl mtext)), ((A 11), .inl (cy 0, 200, .inl mtold)), ((A 12), .inl (cy 0, 672, .inl mahead))]) K (C := RX9) (T := TX9) (N := 22) 0 6 in_X9_changes_o1_X9 tyX9 tyX9_ok nmX9 (by decide +kernel) rfl rfl (by decide) rfl (by decide +kernel) rfl rfl (Nat.le_of_ble_eq_true rfl) rfl dX9_changes_74 ?_
    exact g_vret K E Er (x2, u1) hw rfl rfl (Nat.le_refl _) (Nat.le_refl _) dX9_changes_77
  · replace hw := hw.1 hc
    refine g_iconst (v := 0) K dX9_changes_9 rfl ?_
    refine g_istore_n (lv' := [(2, .int 0), (0, .ref (A 0)), (1, .ref (A 1))]) K dX9_changes_10 rfl (by rw [En]; decide) rfl ?_
    obtain ⟨fl, hw⟩ := hw
    have key : ∀ (k11_40 : Int32 → XRow → Prop), (∀ (v3 : Int32) (v4 : XRow), k11_40 v3 v4 → Gx X 0 0 [((A 0), .inr (10, [.ref (A 1), .ref (A 2), .ref (A 3), .ref (A 4), .int mhasKept, .ref (A 5), .int mpasts, .ref (A 6), .int mreports, .int mthrown, .ref (A 7), .ref (A 8), .ref (A 9), .int mordering, .int mdetail, .ref (A 10), .int mlength, .int mspot, .int mnumber, .ref (A 11), .int mtolds, .ref (A 12)])), ((A 1), .inl (cy 0, 672, .inl mg)), ((A 2), .inl (cy 0, 672, .inl mkept)), ((A 3), .inl (cy 0, 672, .inl mspare)), ((A 4), .inl (cy 0, 672, .inl mtrial)), ((A 5), .inl (cy 0, 5376, .inl v4)), ((A 6), .inl (cy 0, 6, .inl mreport)), ((A 7), .inl (cy 0, 5, .inl mpart)), ((A 8), .inl (cy 0, 5, .inl mcome)), ((A 9), .inl (cy 0, 60, .inl morder)), ((A 10), .inl (cy 0, 80, .inl mtext)), ((A 11), .inl (cy 0, 200, .inl mtold)), ((A 12), .inl (cy 0, 672, .inl mahead))] [(2, .int v3), (0, .ref (A 0)), (1, .ref (A 1))] 40 []) → ∀ (n : Nat) (v3 : Int32) (v4 : XRow), wp_X9_changes_o1_L11 k11_40 n v3 v4 → Gx X 0 0 [((A 0), .inr (10, [.ref (A 1), .ref (A 2), .ref (A 3), .ref (A 4), .int mhasKept, .ref (A 5), .int mpasts, .ref (A 6), .int mreports, .int mthrown, .ref (A 7), .ref (A 8), .ref (A 9), .int mordering, .int mdetail, .ref (A 10), .int mlength, .int mspot, .int mnumber, .ref (A 11), .int mtolds, .ref (A 12)])), ((A 1), .inl (cy 0, 672, .inl mg)), ((A 2), .inl (cy 0, 672, .inl mkept)), ((A 3), .inl (cy 0, 672, .inl mspare)), ((A 4), .inl (cy 0, 672, .inl mtrial)), ((A 5), .inl (cy 0, 5376, .inl v4)), ((A 6), .inl (cy 0, 6, .inl mreport)), ((A 7), .inl (cy 0, 5, .inl mpart)), ((A 8), .inl (cy 0, 5, .inl mcome)), ((A 9), .inl (cy 0, 60, .inl morder)), ((A 10), .inl (cy 0, 80, .inl mtext)), ((A 11), .inl (cy 0, 200, .inl mtold)), ((A 12), .inl (cy 0, 672, .inl mahead))] [(2, .int v3), (0, .ref (A 0)), (1, .ref (A 1))] 11 [] := by
      intro k11_40 hx40 n
      induction n with
      | zero => intro v3 v4 hw; exact hw.elim
      | succ n ih =>
        intro v3 v4 hw
        refine g_iload_n K 0 dX9_changes_11 rfl ?_
        refine g_sipush (v := 4704) K dX9_changes_12 rfl ?_
        refine g_icmp_ge (tgt := 40) K dX9_changes_15 (by decide) (fun hc => ?_) (fun hc => ?_)
        · replace hw := hw.1 hc
          exact hx40 _ _ hw
        · replace hw := hw.2 hc
          refine g_aload_n K 1 dX9_changes_18 rfl ?_
          refine g_get K (C := RX9) (T := TX9) (N := 22) 0 5 in_X9_changes_o1_X9 (by decide +kernel) rfl rfl (by decide) rfl dX9_changes_19 ?_
          refine g_iload_n K 0 dX9_changes_22 rfl ?_
          refine g_aload_n K 1 dX9_changes_23 rfl ?_
          refine g_get K (C := RX9) (T := TX9) (N := 22) 0 5 in_X9_changes_o1_X9 (by decide +kernel) rfl rfl (by decide) rfl dX9_changes_24 ?_
          refine g_iload_n K 0 dX9_changes_27 rfl ?_
          refine g_sipush (v := 672) K dX9_changes_28 rfl ?_
          refine g_iadd K dX9_changes_31 ?_
          refine g_iald K 5 0 rfl rfl hw.1 dX9_changes_32 ?_
          replace hw := hw.2
          refine g_iast (ws' := [((A 0), .inr (10, [.ref (A 1), .ref (A 2), .ref (A 3), .ref (A 4), .int mhasKept, .ref (A 5), .int mpasts, .ref (A 6), .int mreports, .int mthrown, .ref (A 7), .ref (A 8), .ref (A 9), .int mordering, .int mdetail, .ref (A 10), .int mlength, .int mspot, .int mnumber, .ref (A 11), .int mtolds, .ref (A 12)])), ((A 1), .inl (cy 0, 672, .inl mg)), ((A 2), .inl (cy 0, 672, .inl mkept)), ((A 3), .inl (cy 0, 672, .inl mspare)), ((A 4), .inl (cy 0, 672, .inl mtrial)), ((A 5), .inl (cy 0, 5376, .inl (upd v4 (v3).toNatClampNeg (v4 (v3 + 672).toNatClampNeg)))), ((A 6), .inl (cy 0, 6, .inl mreport)), ((A 7), .inl (cy 0, 5, .inl mpart)), ((A 8), .inl (cy 0, 5, .inl mcome)), ((A 9), .inl (cy 0, 60, .inl morder)), ((A 10), .inl (cy 0, 80, .inl mtext)), ((A 11), .inl (cy 0, 200, .inl mtold)), ((A 12), .inl (cy 0, 672, .inl mahead))]) K 5 0 rfl rfl hw.1 rfl dX9_changes_33 ?_
          replace hw := hw.2
          obtain ⟨x5, ex5⟩ : ∃ z : Int32, z = v3 + 1 := ⟨_, rfl⟩
          replace hw := hw x5 ex5
          refine g_iinc (v := x5) (lv' := [(2, .int x5), (0, .ref (A 0)), (1, .ref (A 1))]) K 0 dX9_changes_34 rfl (by rw [ex5]; rfl) (by rw [En]; decide) rfl ?_
          refine g_goto (tgt := 11) K dX9_changes_37 (by decide) ?_
          exact ih _ _ hw
    refine key _ (fun v6 v7 hw => ?_) fl _ _ hw
    refine g_aload_n K 1 dX9_changes_40 rfl ?_
    refine g_dup K dX9_changes_41 rfl ?_
    refine g_get K (C := RX9) (T := TX9) (N := 22) 0 6 in_X9_changes_o1_X9 (by decide +kernel) rfl rfl (by decide) rfl dX9_changes_42 ?_
    refine g_iconst (v := 1) K dX9_changes_45 rfl ?_
    refine g_isub K dX9_changes_46 ?_
    refine g_topi (fun x8 ex8 => ?_)
    replace hw := hw x8 ex8
    refine g_put (ty := .int) (ws' := [((A 0), .inr (10, [.ref (A 1), .ref (A 2), .ref (A 3), .ref (A 4), .int mhasKept, .ref (A 5), .int x8, .ref (A 6), .int mreports, .int mthrown, .ref (A 7), .ref (A 8), .ref (A 9), .int mordering, .int mdetail, .ref (A 10), .int mlength, .int mspot, .int mnumber, .ref (A 11), .int mtolds, .ref (A 12)])), ((A 1), .inl (cy 0, 672, .inl mg)), ((A 2), .inl (cy 0, 672, .inl mkept)), ((A 3), .inl (cy 0, 672, .inl mspare)), ((A 4), .inl (cy 0, 672, .inl mtrial)), ((A 5), .inl (cy 0, 5376, .inl v7)), ((A 6), .inl (cy 0, 6, .inl mreport)), ((A 7), .inl (cy 0, 5, .inl mpart)), ((A 8), .inl (cy 0, 5, .inl mcome)), ((A 9), .inl (cy 0, 60, .inl morder)), ((A 10), .inl (cy 0, 80, .inl mtext)), ((A 11), .inl (cy 0, 200, .inl mtold)), ((A 12), .inl (cy 0, 672, .inl mahead))]) K (C := RX9) (T := TX9) (N := 22) 0 6 in_X9_changes_o1_X9 tyX9 tyX9_ok nmX9 (by decide +kernel) rfl rfl (by decide) rfl (by decide +kernel) rfl rfl (Nat.le_of_ble_eq_true rfl) rfl dX9_changes_47 ?_
    refine g_aload_n K 2 dX9_changes_50 rfl ?_
    refine g_iconst (v := 0) K dX9_changes_51 rfl ?_
    refine g_aload_n K 1 dX9_changes_52 rfl ?_
    refine g_get K (C := RX9) (T := TX9) (N := 22) 0 5 in_X9_changes_o1_X9 (by decide +kernel) rfl rfl (by decide) rfl dX9_changes_53 ?_
    refine g_sipush (v := 672) K dX9_changes_56 rfl ?_
    refine g_aload_n K 1 dX9_changes_59 rfl ?_
    refine g_get K (C := RX9) (T := TX9) (N := 22) 0 6 in_X9_changes_o1_X9 (by decide +kernel) rfl rfl (by decide) rfl dX9_changes_60 ?_
    refine g_imul K dX9_changes_63 ?_
    refine g_callS (st' := fun u9 => []) (ws' := fun u9 => [((A 0), .inr (10, [.ref (A 1), .ref (A 2), .ref (A 3), .ref (A 4), .int mhasKept, .ref (A 5), .int x8, .ref (A 6), .int mreports, .int mthrown, .ref (A 7), .ref (A 8), .ref (A 9), .int mordering, .int mdetail, .ref (A 10), .int mlength, .int mspot, .int mnumber, .ref (A 11), .int mtolds, .ref (A 12)])), ((A 1), .inl (cy 0, 672, .inl mg)), ((A 2), .inl (cy 0, 672, .inl mkept)), ((A 3), .inl (cy 0, 672, .inl mspare)), ((A 4), .inl (cy 0, 672, .inl mtrial)), ((A 5), .inl (cy 0, 5376, .inl u9)), ((A 6), .inl (cy 0, 6, .inl mreport)), ((A 7), .inl (cy 0, 5, .inl mpart)), ((A 8), .inl (cy 0, 5, .inl mcome)), ((A 9), .inl (cy 0, 60, .inl morder)), ((A 10), .inl (cy 0, 80, .inl mtext)), ((A 11), .inl (cy 0, 200, .inl mtold)), ((A 12), .inl (cy 0, 672, .inl mahead))]) K hR [.ref (A 1), .int 0, .ref (A 5), .int (672 * x8)] [] (c_X9_copies X.2.1 (gxD X) cy sd (A 1) (A 5) 672 mg 5376 v7 0 (672 * x8) hw) gX9_changes_X9_copies rfl yok_X9_copies rfl (by decide) rfl (Nat.le_of_ble_eq_true rfl) dX9_changes_64 [1, 5] rfl (by decide) (fun _ => rfl) (fun _ => rfl) (fun _ => rfl) ⟨rfl, rfl⟩ (fun u9 hw => ?_)
    refine g_aload_n K 1 dX9_changes_67 rfl ?_
    refine g_dup K dX9_changes_68 rfl ?_
    refine g_get K (C := RX9) (T := TX9) (N := 22) 0 6 in_X9_changes_o1_X9 (by decide +kernel) rfl rfl (by decide) rfl dX9_changes_69 ?_
    refine g_iconst (v := 1) K dX9_changes_72 rfl ?_
    refine g_iadd K dX9_changes_73 ?_
    refine g_topi (fun x10 ex10 => ?_)
    replace hw := hw x10 ex10
    refine g_put (ty := .int) (ws' := [((A 0), .inr (10, [.ref (A 1), .ref (A 2), .ref (A 3), .ref (A 4), .int mhasKept, .ref (A 5), .int x10, .ref (A 6), .int mreports, .int mthrown, .ref (A 7), .ref (A 8), .ref (A 9), .int mordering, .int mdetail, .ref (A 10), .int mlength, .int mspot, .int mnumber, .ref (A 11), .int mtolds, .ref (A 12)])), ((A 1), .inl (cy 0, 672, .inl mg)), ((A 2), .inl (cy 0, 672, .inl mkept)), ((A 3), .inl (cy 0, 672, .inl mspare)), ((A 4), .inl (cy 0, 672, .inl mtrial)), ((A 5), .inl (cy 0, 5376, .inl u9)), ((A 6), .inl (cy 0, 6, .inl mreport)), ((A 7), .inl (cy 0, 5, .inl mpart)), ((A 8), .inl (cy 0, 5, .inl mcome)), ((A 9), .inl (cy 0, 60, .inl morder)), ((A 10), .inl (cy 0, 80, .inl mtext)), ((A 11), .inl (cy 0, 200, .inl mtold)), ((A 12), .inl (cy 0, 672, .inl mahead))]) K (C := RX9) (T := TX9) (N := 22) 0 6 in_X9_changes_o1_X9 tyX9 tyX9_ok nmX9 (by decide +kernel) rfl rfl (by decide) rfl (by decide +kernel) rfl rfl (Nat.le_of_ble_eq_true rfl) rfl dX9_changes_74 ?_
    exact g_vret K E Er (x10, u9) hw rfl rfl (Nat.le_refl _) (Nat.le_refl _) dX9_changes_77

def wp_X9_addMachine_L107 (x7 : Int32) (k107_133 : Int32 → XRow → Prop) : Nat → Int32 → XRow → Prop
  | 0, _, _ => False
  | fu + 1, v8, v9 => (11 ≤ v8 → (k107_133 v8 v9)) ∧ (¬ 11 ≤ v8 → (wp_X9_machineAt x7 v8 (fun u10 : Int32 => vp_in u10 672 ∧ (∀ x11 : Int32, x11 = v8 + 1 → (wp_X9_addMachine_L107 x7 k107_133 fu x11 (upd v9 (u10).toNatClampNeg 0))))))
def wp_X9_addMachine (mg : XRow) (mpast : XRow) (mpasts : Int32) (p0 : Int32) (p1 : Int32) (p2 : Int32) (p3 : Int32) (p4 : Int32) (post : (Int32 × Int32 × Int32 × XRow × XRow) → Prop) : Prop := wp_X9_isMaterial p0 (fun u1 : Bool => (u1 = true → (wp_X9_mayBe 1 p1 (fun u2 : Bool => (u2 = true → (wp_X9_mayBe 2 p2 (fun u3 : Bool => (u3 = true → (wp_X9_mayBe 3 p3 (fun u4 : Bool => (u4 = true → (wp_X9_mayBe 4 p4 (fun u5 : Bool => (u5 = true → (vp_in 0 672 ∧ (((mg ((0 : Int32).toNatClampNeg)) = 6 → (post (0, mpasts, 3, mg, mpast))) ∧ (¬ (mg ((0 : Int32).toNatClampNeg)) = 6 → (wp_X9_changes_o1 mg mpast mpasts (fun u6 : Int32 × XRow => vp_in 0 672 ∧ (∀ x7 : Int32, x7 = mg ((0 : Int32).toNatClampNeg) → (vp_in 0 672 ∧ (vp_in 0 672 ∧ (∃ fl, wp_X9_addMachine_L107 x7 (fun (v12 : Int32) (v13 : XRow) => wp_X9_machineAt x7 0 (fun u14 : Int32 => vp_in u14 672 ∧ (wp_X9_machineAt x7 1 (fun u15 : Int32 => vp_in u15 672 ∧ (wp_X9_machineAt x7 2 (fun u16 : Int32 => vp_in u16 672 ∧ (wp_X9_machineAt x7 3 (fun u17 : Int32 => vp_in u17 672 ∧ (wp_X9_machineAt x7 4 (fun u18 : Int32 => vp_in u18 672 ∧ (post (x7, u6.1, 0, upd (upd (upd (upd (upd v13 (u14).toNatClampNeg p0) (u15).toNatClampNeg p1) (u16).toNatClampNeg p2) (u17).toNatClampNeg p3) (u18).toNatClampNeg p4, u6.2)))))))))))) fl 5 (upd mg ((0 : Int32).toNatClampNeg) ((mg ((0 : Int32).toNatClampNeg)) + 1)))))))))))) ∧ (u5 = false → (post (0, mpasts, 2, mg, mpast)))))) ∧ (u4 = false → (post (0, mpasts, 2, mg, mpast)))))) ∧ (u3 = false → (post (0, mpasts, 2, mg, mpast)))))) ∧ (u2 = false → (post (0, mpasts, 2, mg, mpast)))))) ∧ (u1 = false → (post (0, mpasts, 1, mg, mpast))))
theorem in_X9_addMachine_X9 : ∀ w ∈ u_ws RX9 TX9 22, w ∈ wsX9_addMachine := by decide +kernel
set_option maxRecDepth 100000 in
set_option maxHeartbeats 4000000 in
theorem c_X9_addMachine (l : Launch) (D : va_G) (cy : Nat → ClassId) (sd : xSd) (A : Nat → Nat) (mg : XRow) (mkept : XRow) (mspare : XRow) (mtrial : XRow) (mpast : XRow) (mreport : XRow) (mpart : XRow) (mcome : XRow) (morder : XRow) (mtext : XRow) (mtold : XRow) (mahead : XRow) (mhasKept : Int32) (mpasts : Int32) (mreports : Int32) (mthrown : Int32) (mordering : Int32) (mdetail : Int32) (mlength : Int32) (mspot : Int32) (mnumber : Int32) (mtolds : Int32) (p0 : Int32) (p1 : Int32) (p2 : Int32) (p3 : Int32) (p4 : Int32) {post : (Int32 × Int32 × Int32 × XRow × XRow) → Prop} (hw : wp_X9_addMachine mg mpast mpasts p0 p1 p2 p3 p4 post) : Ctr l D (xTys cy) sd yX9_addMachine wsX9_addMachine ({ frames := 3, cells := 0, slots := 0, locals := 63 } : Room) [.ref (A 0), .int p0, .int p1, .int p2, .int p3, .int p4] (fun u : Int32 × Int32 × Int32 × XRow × XRow => some (.int u.1)) [((A 0), .inr (10, [.ref (A 1), .ref (A 2), .ref (A 3), .ref (A 4), .int mhasKept, .ref (A 5), .int mpasts, .ref (A 6), .int mreports, .int mthrown, .ref (A 7), .ref (A 8), .ref (A 9), .int mordering, .int mdetail, .ref (A 10), .int mlength, .int mspot, .int mnumber, .ref (A 11), .int mtolds, .ref (A 12)])), ((A 1), .inl (cy 0, 672, .inl mg)), ((A 2), .inl (cy 0, 672, .inl mkept)), ((A 3), .inl (cy 0, 672, .inl mspare)), ((A 4), .inl (cy 0, 672, .inl mtrial)), ((A 5), .inl (cy 0, 5376, .inl mpast)), ((A 6), .inl (cy 0, 6, .inl mreport)), ((A 7), .inl (cy 0, 5, .inl mpart)), ((A 8), .inl (cy 0, 5, .inl mcome)), ((A 9), .inl (cy 0, 60, .inl morder)), ((A 10), .inl (cy 0, 80, .inl mtext)), ((A 11), .inl (cy 0, 200, .inl mtold)), ((A 12), .inl (cy 0, 672, .inl mahead))] (fun u => [((A 0), .inr (10, [.ref (A 1), .ref (A 2), .ref (A 3), .ref (A 4), .int mhasKept, .ref (A 5), .int u.2.1, .ref (A 6), .int mreports, .int u.2.2.1, .ref (A 7), .ref (A 8), .ref (A 9), .int mordering, .int mdetail, .ref (A 10), .int mlength, .int mspot, .int mnumber, .ref (A 11), .int mtolds, .ref (A 12)])), ((A 1), .inl (cy 0, 672, .inl u.2.2.2.1)), ((A 2), .inl (cy 0, 672, .inl mkept)), ((A 3), .inl (cy 0, 672, .inl mspare)), ((A 4), .inl (cy 0, 672, .inl mtrial)), ((A 5), .inl (cy 0, 5376, .inl u.2.2.2.2)), ((A 6), .inl (cy 0, 6, .inl mreport)), ((A 7), .inl (cy 0, 5, .inl mpart)), ((A 8), .inl (cy 0, 5, .inl mcome)), ((A 9), .inl (cy 0, 60, .inl morder)), ((A 10), .inl (cy 0, 80, .inl mtext)), ((A 11), .inl (cy 0, 200, .inl mtold)), ((A 12), .inl (cy 0, 672, .inl mahead))]) post := by
  refine Ctr.of (cc := cX9_addMachine) (maxL := 8) (ret := (some .int)) (lv0 := [(0, .ref (A 0)), (1, .int p0), (2, .int p1), (3, .int p2), (4, .int p3), (5, .int p4)]) (by decide) rfl (Nat.le_of_ble_eq_true rfl) rfl ?_
  intro X El hR Er Enm ED E En K
  have K : Cx X cX9_addMachine RX9 wsX9_addMachine (xTys cy) sd := K
  have E : X.2.2.2.2.2.2.2.2.2.2.1 = xMQ X (fun u : Int32 × Int32 × Int32 × XRow × XRow => some (.int u.1)) post (fun u => [((A 0), .inr (10, [.ref (A 1), .ref (A 2), .ref (A 3), .ref (A 4), .int mhasKept, .ref (A 5), .int u.2.1, .ref (A 6), .int mreports, .int u.2.2.1, .ref (A 7), .ref (A 8), .ref (A 9), .int mordering, .int mdetail, .ref (A 10), .int mlength, .int mspot, .int mnumber, .ref (A 11), .int mtolds, .ref (A 12)])), ((A 1), .inl (cy 0, 672, .inl u.2.2.2.1)), ((A 2), .inl (cy 0, 672, .inl mkept)), ((A 3), .inl (cy 0, 672, .inl mspare)), ((A 4), .inl (cy 0, 672, .inl mtrial)), ((A 5), .inl (cy 0, 5376, .inl u.2.2.2.2)), ((A 6), .inl (cy 0, 6, .inl mreport)), ((A 7), .inl (cy 0, 5, .inl mpart)), ((A 8), .inl (cy 0, 5, .inl mcome)), ((A 9), .inl (cy 0, 60, .inl morder)), ((A 10), .inl (cy 0, 80, .inl mtext)), ((A 11), .inl (cy 0, 200, .inl mtold)), ((A 12), .inl (cy 0, 672, .inl mahead))]) 0 0 := E
  unfold wp_X9_addMachine at hw
  refine g_aload_n K 0 dX9_addMachine_0 rfl ?_
  refine g_iload_n K 1 dX9_addMachine_1 rfl ?_
  refine g_callSr (st' := fun u1 => [.int (bI u1), .ref (A 0)]) K hR [.int p0] [.ref (A 0)] (c_X9_isMaterial X.2.1 (gxD X) cy sd p0 hw) gX9_addMachine_X9_isMaterial rfl yok_X9_isMaterial rfl (by decide) rfl (Nat.le_of_ble_eq_true rfl) dX9_addMachine_2 [] rfl (by decide) (fun _ => rfl) ⟨rfl, rfl⟩ (fun u1 hw => ?_)
  refine g_ifb_ne (tgt := 12) K dX9_addMachine_5 (by decide) (fun hc => ?_) (fun hc => ?_)
  · replace hw := hw.1 hc
    refine g_iconst (v := 1) K dX9_addMachine_12 rfl ?_
    refine g_iload_n K 2 dX9_addMachine_13 rfl ?_
    refine g_callSr (st' := fun u2 => [.int (bI u2), .ref (A 0)]) K hR [.int 1, .int p1] [.ref (A 0)] (c_X9_mayBe X.2.1 (gxD X) cy sd 1 p1 hw) gX9_addMachine_X9_mayBe rfl yok_X9_mayBe rfl (by decide) rfl (Nat.le_of_ble_eq_true rfl) dX9_addMachine_14 [] rfl (by decide) (fun _ => rfl) ⟨rfl, rfl⟩ (fun u2 hw => ?_)
    refine g_ifb_eq (tgt := 46) K dX9_addMachine_17 (by decide) (fun hc => ?_) (fun hc => ?_)
    · replace hw := hw.2 hc
      refine g_iconst (v := 2) K dX9_addMachine_46 rfl ?_
      refine g_goto (tgt := 66) K dX9_addMachine_47 (by decide) ?_
      refine g_put (ty := .int) (ws' := [((A 0), .inr (10, [.ref (A 1), .ref (A 2), .ref (A 3), .ref (A 4), .int mhasKept, .ref (A 5), .int mpasts, .ref (A 6), .int mreports, .int 2, .ref (A 7), .ref (A 8), .ref (A 9), .int mordering, .int mdetail, .ref (A 10), .int mlength, .int mspot, .int mnumber, .ref (A 11), .int mtolds, .ref (A 12)])), ((A 1), .inl (cy 0, 672, .inl mg)), ((A 2), .inl (cy 0, 672, .inl mkept)), ((A 3), .inl (cy 0, 672, .inl mspare)), ((A 4), .inl (cy 0, 672, .inl mtrial)), ((A 5), .inl (cy 0, 5376, .inl mpast)), ((A 6), .inl (cy 0, 6, .inl mreport)), ((A 7), .inl (cy 0, 5, .inl mpart)), ((A 8), .inl (cy 0, 5, .inl mcome)), ((A 9), .inl (cy 0, 60, .inl morder)), ((A 10), .inl (cy 0, 80, .inl mtext)), ((A 11), .inl (cy 0, 200, .inl mtold)), ((A 12), .inl (cy 0, 672, .inl mahead))]) K (C := RX9) (T := TX9) (N := 22) 0 9 in_X9_addMachine_X9 tyX9 tyX9_ok nmX9 (by decide +kernel) rfl rfl (by decide) rfl (by decide +kernel) rfl rfl (Nat.le_of_ble_eq_true rfl) rfl dX9_addMachine_66 ?_
      refine g_aload_n K 0 dX9_addMachine_69 rfl ?_
      refine g_get K (C := RX9) (T := TX9) (N := 22) 0 9 in_X9_addMachine_X9 (by decide +kernel) rfl rfl (by decide) rfl dX9_addMachine_70 ?_
      refine g_if_le (tgt := 78) K dX9_addMachine_73 (by decide) (fun hc => absurd hc (by decide)) (fun _ => ?_)
      refine g_iconst (v := 0) K dX9_addMachine_76 rfl ?_
      exact g_zret K E Er (0, mpasts, 2, mg, mpast) hw rfl rfl rfl (Nat.le_refl _) (Nat.le_refl _) dX9_addMachine_77
    · replace hw := hw.1 hc
      refine g_iconst (v := 2) K dX9_addMachine_20 rfl ?_
      refine g_iload_n K 3 dX9_addMachine_21 rfl ?_
      refine g_callSr (st' := fun u3 => [.int (bI u3), .ref (A 0)]) K hR [.int 2, .int p2] [.ref (A 0)] (c_X9_mayBe X.2.1 (gxD X) cy sd 2 p2 hw) gX9_addMachine_X9_mayBe rfl yok_X9_mayBe rfl (by decide) rfl (Nat.le_of_ble_eq_true rfl) dX9_addMachine_22 [] rfl (by decide) (fun _ => rfl) ⟨rfl, rfl⟩ (fun u3 hw => ?_)
      refine g_ifb_eq (tgt := 46) K dX9_addMachine_25 (by decide) (fun hc => ?_) (fun hc => ?_)
      · replace hw := hw.2 hc
        refine g_iconst (v := 2) K dX9_addMachine_46 rfl ?_
        refine g_goto (tgt := 66) K dX9_addMachine_47 (by decide) ?_
        refine g_put (ty := .int) (ws' := [((A 0), .inr (10, [.ref (A 1), .ref (A 2), .ref (A 3), .ref (A 4), .int mhasKept, .ref (A 5), .int mpasts, .ref (A 6), .int mreports, .int 2, .ref (A 7), .ref (A 8), .ref (A 9), .int mordering, .int mdetail, .ref (A 10), .int mlength, .int mspot, .int mnumber, .ref (A 11), .int mtolds, .ref (A 12)])), ((A 1), .inl (cy 0, 672, .inl mg)), ((A 2), .inl (cy 0, 672, .inl mkept)), ((A 3), .inl (cy 0, 672, .inl mspare)), ((A 4), .inl (cy 0, 672, .inl mtrial)), ((A 5), .inl (cy 0, 5376, .inl mpast)), ((A 6), .inl (cy 0, 6, .inl mreport)), ((A 7), .inl (cy 0, 5, .inl mpart)), ((A 8), .inl (cy 0, 5, .inl mcome)), ((A 9), .inl (cy 0, 60, .inl morder)), ((A 10), .inl (cy 0, 80, .inl mtext)), ((A 11), .inl (cy 0, 200, .inl mtold)), ((A 12), .inl (cy 0, 672, .inl mahead))]) K (C := RX9) (T := TX9) (N := 22) 0 9 in_X9_addMachine_X9 tyX9 tyX9_ok nmX9 (by decide +kernel) rfl rfl (by decide) rfl (by decide +kernel) rfl rfl (Nat.le_of_ble_eq_true rfl) rfl dX9_addMachine_66 ?_
        refine g_aload_n K 0 dX9_addMachine_69 rfl ?_
        refine g_get K (C := RX9) (T := TX9) (N := 22) 0 9 in_X9_addMachine_X9 (by decide +kernel) rfl rfl (by decide) rfl dX9_addMachine_70 ?_
        refine g_if_le (tgt := 78) K dX9_addMachine_73 (by decide) (fun hc => absurd hc (by decide)) (fun _ => ?_)
        refine g_iconst (v := 0) K dX9_addMachine_76 rfl ?_
        exact g_zret K E Er (0, mpasts, 2, mg, mpast) hw rfl rfl rfl (Nat.le_refl _) (Nat.le_refl _) dX9_addMachine_77
      · replace hw := hw.1 hc
        refine g_iconst (v := 3) K dX9_addMachine_28 rfl ?_
        refine g_iload K 4 dX9_addMachine_29 rfl ?_
        refine g_callSr (st' := fun u4 => [.int (bI u4), .ref (A 0)]) K hR [.int 3, .int p3] [.ref (A 0)] (c_X9_mayBe X.2.1 (gxD X) cy sd 3 p3 hw) gX9_addMachine_X9_mayBe rfl yok_X9_mayBe rfl (by decide) rfl (Nat.le_of_ble_eq_true rfl) dX9_addMachine_31 [] rfl (by decide) (fun _ => rfl) ⟨rfl, rfl⟩ (fun u4 hw => ?_)
        refine g_ifb_eq (tgt := 46) K dX9_addMachine_34 (by decide) (fun hc => ?_) (fun hc => ?_)
        · replace hw := hw.2 hc
          refine g_iconst (v := 2) K dX9_addMachine_46 rfl ?_
          refine g_goto (tgt := 66) K dX9_addMachine_47 (by decide) ?_
          refine g_put (ty := .int) (ws' := [((A 0), .inr (10, [.ref (A 1), .ref (A 2), .ref (A 3), .ref (A 4), .int mhasKept, .ref (A 5), .int mpasts, .ref (A 6), .int mreports, .int 2, .ref (A 7), .ref (A 8), .ref (A 9), .int mordering, .int mdetail, .ref (A 10), .int mlength, .int mspot, .int mnumber, .ref (A 11), .int mtolds, .ref (A 12)])), ((A 1), .inl (cy 0, 672, .inl mg)), ((A 2), .inl (cy 0, 672, .inl mkept)), ((A 3), .inl (cy 0, 672, .inl mspare)), ((A 4), .inl (cy 0, 672, .inl mtrial)), ((A 5), .inl (cy 0, 5376, .inl mpast)), ((A 6), .inl (cy 0, 6, .inl mreport)), ((A 7), .inl (cy 0, 5, .inl mpart)), ((A 8), .inl (cy 0, 5, .inl mcome)), ((A 9), .inl (cy 0, 60, .inl morder)), ((A 10), .inl (cy 0, 80, .inl mtext)), ((A 11), .inl (cy 0, 200, .inl mtold)), ((A 12), .inl (cy 0, 672, .inl mahead))]) K (C := RX9) (T := TX9) (N := 22) 0 9 in_X9_addMachine_X9 tyX9 tyX9_ok nmX9 (by decide +kernel) rfl rfl (by decide) rfl (by decide +kernel) rfl rfl (Nat.le_of_ble_eq_true rfl) rfl dX9_addMachine_66 ?_
          refine g_aload_n K 0 dX9_addMachine_69 rfl ?_
          refine g_get K (C := RX9) (T := TX9) (N := 22) 0 9 in_X9_addMachine_X9 (by decide +kernel) rfl rfl (by decide) rfl dX9_addMachine_70 ?_
          refine g_if_le (tgt := 78) K dX9_addMachine_73 (by decide) (fun hc => absurd hc (by decide)) (fun _ => ?_)
          refine g_iconst (v := 0) K dX9_addMachine_76 rfl ?_
          exact g_zret K E Er (0, mpasts, 2, mg, mpast) hw rfl rfl rfl (Nat.le_refl _) (Nat.le_refl _) dX9_addMachine_77
        · replace hw := hw.1 hc
          refine g_iconst (v := 4) K dX9_addMachine_37 rfl ?_
          refine g_iload K 5 dX9_addMachine_38 rfl ?_
          refine g_callSr (st' := fun u5 => [.int (bI u5), .ref (A 0)]) K hR [.int 4, .int p4] [.ref (A 0)] (c_X9_mayBe X.2.1 (gxD X) cy sd 4 p4 hw) gX9_addMachine_X9_mayBe rfl yok_X9_mayBe rfl (by decide) rfl (Nat.le_of_ble_eq_true rfl) dX9_addMachine_40 [] rfl (by decide) (fun _ => rfl) ⟨rfl, rfl⟩ (fun u5 hw => ?_)
          refine g_ifb_ne (tgt := 50) K dX9_addMachine_43 (by decide) (fun hc => ?_) (fun hc => ?_)
          · replace hw := hw.1 hc
            refine g_aload_n K 0 dX9_addMachine_50 rfl ?_
            refine g_get K (C := RX9) (T := TX9) (N := 22) 0 0 in_X9_addMachine_X9 (by decide +kernel) rfl rfl (by decide) rfl dX9_addMachine_51 ?_
            refine g_iconst (v := 0) K dX9_addMachine_54 rfl ?_
            refine g_iald K 1 0 rfl rfl hw.1 dX9_addMachine_55 ?_
            replace hw := hw.2
            refine g_bipush (v := 6) K dX9_addMachine_56 rfl ?_
            refine g_icmp_ne (tgt := 65) K dX9_addMachine_58 (by decide) (fun hc => ?_) (fun hc => ?_)
            · replace hw := hw.2 hc
              refine g_iconst (v := 0) K dX9_addMachine_65 rfl ?_
              refine g_put (ty := .int) (ws' := [((A 0), .inr (10, [.ref (A 1), .ref (A 2), .ref (A 3), .ref (A 4), .int mhasKept, .ref (A 5), .int mpasts, .ref (A 6), .int mreports, .int 0, .ref (A 7), .ref (A 8), .ref (A 9), .int mordering, .int mdetail, .ref (A 10), .int mlength, .int mspot, .int mnumber, .ref (A 11), .int mtolds, .ref (A 12)])), ((A 1), .inl (cy 0, 672, .inl mg)), ((A 2), .inl (cy 0, 672, .inl mkept)), ((A 3), .inl (cy 0, 672, .inl mspare)), ((A 4), .inl (cy 0, 672, .inl mtrial)), ((A 5), .inl (cy 0, 5376, .inl mpast)), ((A 6), .inl (cy 0, 6, .inl mreport)), ((A 7), .inl (cy 0, 5, .inl mpart)), ((A 8), .inl (cy 0, 5, .inl mcome)), ((A 9), .inl (cy 0, 60, .inl morder)), ((A 10), .inl (cy 0, 80, .inl mtext)), ((A 11), .inl (cy 0, 200, .inl mtold)), ((A 12), .inl (cy 0, 672, .inl mahead))]) K (C := RX9) (T := TX9) (N := 22) 0 9 in_X9_addMachine_X9 tyX9 tyX9_ok nmX9 (by decide +kernel) rfl rfl (by decide) rfl (by decide +kernel) rfl rfl (Nat.le_of_ble_eq_true rfl) rfl dX9_addMachine_66 ?_
              refine g_aload_n K 0 dX9_addMachine_69 rfl ?_
              refine g_get K (C := RX9) (T := TX9) (N := 22) 0 9 in_X9_addMachine_X9 (by decide +kernel) rfl rfl (by decide) rfl dX9_addMachine_70 ?_
              refine g_if_le (tgt := 78) K dX9_addMachine_73 (by decide) (fun _ => ?_) (fun hc => absurd (by decide) hc)
              refine g_aload_n K 0 dX9_addMachine_78 rfl ?_
              refine g_aload_n K 0 dX9_addMachine_79 rfl ?_
              refine g_get K (C := RX9) (T := TX9) (N := 22) 0 0 in_X9_addMachine_X9 (by decide +kernel) rfl rfl (by decide) rfl dX9_addMachine_80 ?_
              refine g_callV (st' := fun u6 => []) (ws' := fun u6 => [((A 0), .inr (10, [.ref (A 1), .ref (A 2), .ref (A 3), .ref (A 4), .int mhasKept, .ref (A 5), .int u6.1, .ref (A 6), .int mreports, .int 0, .ref (A 7), .ref (A 8), .ref (A 9), .int mordering, .int mdetail, .ref (A 10), .int mlength, .int mspot, .int mnumber, .ref (A 11), .int mtolds, .ref (A 12)])), ((A 1), .inl (cy 0, 672, .inl mg)), ((A 2), .inl (cy 0, 672, .inl mkept)), ((A 3), .inl (cy 0, 672, .inl mspare)), ((A 4), .inl (cy 0, 672, .inl mtrial)), ((A 5), .inl (cy 0, 5376, .inl u6.2)), ((A 6), .inl (cy 0, 6, .inl mreport)), ((A 7), .inl (cy 0, 5, .inl mpart)), ((A 8), .inl (cy 0, 5, .inl mcome)), ((A 9), .inl (cy 0, 60, .inl morder)), ((A 10), .inl (cy 0, 80, .inl mtext)), ((A 11), .inl (cy 0, 200, .inl mtold)), ((A 12), .inl (cy 0, 672, .inl mahead))]) K hR [.ref (A 1)] [] 0 rfl rfl (c_X9_changes_o1 X.2.1 (gxD X) cy sd A mg mkept mspare mtrial mpast mreport mpart mcome morder mtext mtold mahead mhasKept mpasts mreports 0 mordering mdetail mlength mspot mnumber mtolds hw) gX9_addMachine_X9_changes rfl yok_X9_changes rfl rfl (by decide) rfl (Nat.le_of_ble_eq_true rfl) dX9_addMachine_83 [0, 1, 2, 3, 4, 5, 6, 7, 8, 9, 10, 11, 12] rfl (by decide) (fun _ => rfl) (fun _ => rfl) (fun _ => rfl) ⟨rfl, rfl⟩ (fun u6 hw => ?_)
              refine g_aload_n K 0 dX9_addMachine_86 rfl ?_
              refine g_get K (C := RX9) (T := TX9) (N := 22) 0 0 in_X9_addMachine_X9 (by decide +kernel) rfl rfl (by decide) rfl dX9_addMachine_87 ?_
              refine g_iconst (v := 0) K dX9_addMachine_90 rfl ?_
              refine g_iald K 1 0 rfl rfl hw.1 dX9_addMachine_91 ?_
              replace hw := hw.2
              refine g_topi (fun x7 ex7 => ?_)
              replace hw := hw x7 ex7
              refine g_istore (lv' := [(6, .int x7), (0, .ref (A 0)), (1, .int p0), (2, .int p1), (3, .int p2), (4, .int p3), (5, .int p4)]) K dX9_addMachine_92 (by rw [En]; decide) rfl ?_
              refine g_aload_n K 1 dX9_addMachine_94 rfl ?_
              refine g_get K (C := RX9) (T := TX9) (N := 22) 0 0 in_X9_addMachine_X9 (by decide +kernel) rfl rfl (by decide) rfl dX9_addMachine_95 ?_
              refine g_iconst (v := 0) K dX9_addMachine_98 rfl ?_
              refine g_dup2_11 K dX9_addMachine_99 rfl rfl ?_
              refine g_iald K 1 0 rfl rfl hw.1 dX9_addMachine_100 ?_
              replace hw := hw.2
              refine g_iconst (v := 1) K dX9_addMachine_101 rfl ?_
              refine g_iadd K dX9_addMachine_102 ?_
              refine g_iast (ws' := [((A 0), .inr (10, [.ref (A 1), .ref (A 2), .ref (A 3), .ref (A 4), .int mhasKept, .ref (A 5), .int u6.1, .ref (A 6), .int mreports, .int 0, .ref (A 7), .ref (A 8), .ref (A 9), .int mordering, .int mdetail, .ref (A 10), .int mlength, .int mspot, .int mnumber, .ref (A 11), .int mtolds, .ref (A 12)])), ((A 1), .inl (cy 0, 672, .inl (upd mg ((0 : Int32).toNatClampNeg) ((mg ((0 : Int32).toNatClampNeg)) + 1)))), ((A 2), .inl (cy 0, 672, .inl mkept)), ((A 3), .inl (cy 0, 672, .inl mspare)), ((A 4), .inl (cy 0, 672, .inl mtrial)), ((A 5), .inl (cy 0, 5376, .inl u6.2)), ((A 6), .inl (cy 0, 6, .inl mreport)), ((A 7), .inl (cy 0, 5, .inl mpart)), ((A 8), .inl (cy 0, 5, .inl mcome)), ((A 9), .inl (cy 0, 60, .inl morder)), ((A 10), .inl (cy 0, 80, .inl mtext)), ((A 11), .inl (cy 0, 200, .inl mtold)), ((A 12), .inl (cy 0, 672, .inl mahead))]) K 1 0 rfl rfl hw.1 rfl dX9_addMachine_103 ?_
              replace hw := hw.2
              refine g_iconst (v := 5) K dX9_addMachine_104 rfl ?_
              refine g_istore (lv' := [(7, .int 5), (6, .int x7), (0, .ref (A 0)), (1, .int p0), (2, .int p1), (3, .int p2), (4, .int p3), (5, .int p4)]) K dX9_addMachine_105 (by rw [En]; decide) rfl ?_
              obtain ⟨fl, hw⟩ := hw
              have key : ∀ (k107_133 : Int32 → XRow → Prop), (∀ (v8 : Int32) (v9 : XRow), k107_133 v8 v9 → Gx X 0 0 [((A 0), .inr (10, [.ref (A 1), .ref (A 2), .ref (A 3), .ref (A 4), .int mhasKept, .ref (A 5), .int u6.1, .ref (A 6), .int mreports, .int 0, .ref (A 7), .ref (A 8), .ref (A 9), .int mordering, .int mdetail, .ref (A 10), .int mlength, .int mspot, .int mnumber, .ref (A 11), .int mtolds, .ref (A 12)])), ((A 1), .inl (cy 0, 672, .inl v9)), ((A 2), .inl (cy 0, 672, .inl mkept)), ((A 3), .inl (cy 0, 672, .inl mspare)), ((A 4), .inl (cy 0, 672, .inl mtrial)), ((A 5), .inl (cy 0, 5376, .inl u6.2)), ((A 6), .inl (cy 0, 6, .inl mreport)), ((A 7), .inl (cy 0, 5, .inl mpart)), ((A 8), .inl (cy 0, 5, .inl mcome)), ((A 9), .inl (cy 0, 60, .inl morder)), ((A 10), .inl (cy 0, 80, .inl mtext)), ((A 11), .inl (cy 0, 200, .inl mtold)), ((A 12), .inl (cy 0, 672, .inl mahead))] [(7, .int v8), (6, .int x7), (0, .ref (A 0)), (1, .int p0), (2, .int p1), (3, .int p2), (4, .int p3), (5, .int p4)] 133 []) → ∀ (n : Nat) (v8 : Int32) (v9 : XRow), wp_X9_addMachine_L107 x7 k107_133 n v8 v9 → Gx X 0 0 [((A 0), .inr (10, [.ref (A 1), .ref (A 2), .ref (A 3), .ref (A 4), .int mhasKept, .ref (A 5), .int u6.1, .ref (A 6), .int mreports, .int 0, .ref (A 7), .ref (A 8), .ref (A 9), .int mordering, .int mdetail, .ref (A 10), .int mlength, .int mspot, .int mnumber, .ref (A 11), .int mtolds, .ref (A 12)])), ((A 1), .inl (cy 0, 672, .inl v9)), ((A 2), .inl (cy 0, 672, .inl mkept)), ((A 3), .inl (cy 0, 672, .inl mspare)), ((A 4), .inl (cy 0, 672, .inl mtrial)), ((A 5), .inl (cy 0, 5376, .inl u6.2)), ((A 6), .inl (cy 0, 6, .inl mreport)), ((A 7), .inl (cy 0, 5, .inl mpart)), ((A 8), .inl (cy 0, 5, .inl mcome)), ((A 9), .inl (cy 0, 60, .inl morder)), ((A 10), .inl (cy 0, 80, .inl mtext)), ((A 11), .inl (cy 0, 200, .inl mtold)), ((A 12), .inl (cy 0, 672, .inl mahead))] [(7, .int v8), (6, .int x7), (0, .ref (A 0)), (1, .int p0), (2, .int p1), (3, .int p2), (4, .int p3), (5, .int p4)] 107 [] := by
                intro k107_133 hx133 n
                induction n with
                | zero => intro v8 v9 hw; exact hw.elim
                | succ n ih =>
                  intro v8 v9 hw
                  refine g_iload K 0 dX9_addMachine_107 rfl ?_
                  refine g_bipush (v := 11) K dX9_addMachine_109 rfl ?_
                  refine g_icmp_ge (tgt := 133) K dX9_addMachine_111 (by decide) (fun hc => ?_) (fun hc => ?_)
                  · replace hw := hw.1 hc
                    exact hx133 _ _ hw
                  · replace hw := hw.2 hc
                    refine g_aload_n K 2 dX9_addMachine_114 rfl ?_
                    refine g_get K (C := RX9) (T := TX9) (N := 22) 0 0 in_X9_addMachine_X9 (by decide +kernel) rfl rfl (by decide) rfl dX9_addMachine_115 ?_
                    refine g_iload K 1 dX9_addMachine_118 rfl ?_
                    refine g_iload K 0 dX9_addMachine_120 rfl ?_
                    refine g_callSr (st' := fun u10 => [.int u10, .ref (A 1)]) K hR [.int x7, .int v8] [.ref (A 1)] (c_X9_machineAt X.2.1 (gxD X) cy sd x7 v8 hw) gX9_addMachine_X9_machineAt rfl yok_X9_machineAt rfl (by decide) rfl (Nat.le_of_ble_eq_true rfl) dX9_addMachine_122 [] rfl (by decide) (fun _ => rfl) ⟨rfl, rfl⟩ (fun u10 hw => ?_)
                    refine g_iconst (v := 0) K dX9_addMachine_125 rfl ?_
                    refine g_iast (ws' := [((A 0), .inr (10, [.ref (A 1), .ref (A 2), .ref (A 3), .ref (A 4), .int mhasKept, .ref (A 5), .int u6.1, .ref (A 6), .int mreports, .int 0, .ref (A 7), .ref (A 8), .ref (A 9), .int mordering, .int mdetail, .ref (A 10), .int mlength, .int mspot, .int mnumber, .ref (A 11), .int mtolds, .ref (A 12)])), ((A 1), .inl (cy 0, 672, .inl (upd v9 (u10).toNatClampNeg 0))), ((A 2), .inl (cy 0, 672, .inl mkept)), ((A 3), .inl (cy 0, 672, .inl mspare)), ((A 4), .inl (cy 0, 672, .inl mtrial)), ((A 5), .inl (cy 0, 5376, .inl u6.2)), ((A 6), .inl (cy 0, 6, .inl mreport)), ((A 7), .inl (cy 0, 5, .inl mpart)), ((A 8), .inl (cy 0, 5, .inl mcome)), ((A 9), .inl (cy 0, 60, .inl morder)), ((A 10), .inl (cy 0, 80, .inl mtext)), ((A 11), .inl (cy 0, 200, .inl mtold)), ((A 12), .inl (cy 0, 672, .inl mahead))]) K 1 0 rfl rfl hw.1 rfl dX9_addMachine_126 ?_
                    replace hw := hw.2
                    obtain ⟨x11, ex11⟩ : ∃ z : Int32, z = v8 + 1 := ⟨_, rfl⟩
                    replace hw := hw x11 ex11
                    refine g_iinc (v := x11) (lv' := [(7, .int x11), (6, .int x7), (0, .ref (A 0)), (1, .int p0), (2, .int p1), (3, .int p2), (4, .int p3), (5, .int p4)]) K 0 dX9_addMachine_127 rfl (by rw [ex11]; rfl) (by rw [En]; decide) rfl ?_
                    refine g_goto (tgt := 107) K dX9_addMachine_130 (by decide) ?_
                    exact ih _ _ hw
              refine key _ (fun v12 v13 hw => ?_) fl _ _ hw
              refine g_aload_n K 2 dX9_addMachine_133 rfl ?_
              refine g_get K (C := RX9) (T := TX9) (N := 22) 0 0 in_X9_addMachine_X9 (by decide +kernel) rfl rfl (by decide) rfl dX9_addMachine_134 ?_
              refine g_iload K 1 dX9_addMachine_137 rfl ?_
              refine g_iconst (v := 0) K dX9_addMachine_139 rfl ?_
              refine g_callSr (st' := fun u14 => [.int u14, .ref (A 1)]) K hR [.int x7, .int 0] [.ref (A 1)] (c_X9_machineAt X.2.1 (gxD X) cy sd x7 0 hw) gX9_addMachine_X9_machineAt rfl yok_X9_machineAt rfl (by decide) rfl (Nat.le_of_ble_eq_true rfl) dX9_addMachine_140 [] rfl (by decide) (fun _ => rfl) ⟨rfl, rfl⟩ (fun u14 hw => ?_)
              refine g_iload_n K 3 dX9_addMachine_143 rfl ?_
              refine g_iast (ws' := [((A 0), .inr (10, [.ref (A 1), .ref (A 2), .ref (A 3), .ref (A 4), .int mhasKept, .ref (A 5), .int u6.1, .ref (A 6), .int mreports, .int 0, .ref (A 7), .ref (A 8), .ref (A 9), .int mordering, .int mdetail, .ref (A 10), .int mlength, .int mspot, .int mnumber, .ref (A 11), .int mtolds, .ref (A 12)])), ((A 1), .inl (cy 0, 672, .inl (upd v13 (u14).toNatClampNeg p0))), ((A 2), .inl (cy 0, 672, .inl mkept)), ((A 3), .inl (cy 0, 672, .inl mspare)), ((A 4), .inl (cy 0, 672, .inl mtrial)), ((A 5), .inl (cy 0, 5376, .inl u6.2)), ((A 6), .inl (cy 0, 6, .inl mreport)), ((A 7), .inl (cy 0, 5, .inl mpart)), ((A 8), .inl (cy 0, 5, .inl mcome)), ((A 9), .inl (cy 0, 60, .inl morder)), ((A 10), .inl (cy 0, 80, .inl mtext)), ((A 11), .inl (cy 0, 200, .inl mtold)), ((A 12), .inl (cy 0, 672, .inl mahead))]) K 1 0 rfl rfl hw.1 rfl dX9_addMachine_144 ?_
              replace hw := hw.2
              refine g_aload_n K 2 dX9_addMachine_145 rfl ?_
              refine g_get K (C := RX9) (T := TX9) (N := 22) 0 0 in_X9_addMachine_X9 (by decide +kernel) rfl rfl (by decide) rfl dX9_addMachine_146 ?_
              refine g_iload K 1 dX9_addMachine_149 rfl ?_
              refine g_iconst (v := 1) K dX9_addMachine_151 rfl ?_
              refine g_callSr (st' := fun u15 => [.int u15, .ref (A 1)]) K hR [.int x7, .int 1] [.ref (A 1)] (c_X9_machineAt X.2.1 (gxD X) cy sd x7 1 hw) gX9_addMachine_X9_machineAt rfl yok_X9_machineAt rfl (by decide) rfl (Nat.le_of_ble_eq_true rfl) dX9_addMachine_152 [] rfl (by decide) (fun _ => rfl) ⟨rfl, rfl⟩ (fun u15 hw => ?_)
              refine g_iload_n K 4 dX9_addMachine_155 rfl ?_
              refine g_iast (ws' := [((A 0), .inr (10, [.ref (A 1), .ref (A 2), .ref (A 3), .ref (A 4), .int mhasKept, .ref (A 5), .int u6.1, .ref (A 6), .int mreports, .int 0, .ref (A 7), .ref (A 8), .ref (A 9), .int mordering, .int mdetail, .ref (A 10), .int mlength, .int mspot, .int mnumber, .ref (A 11), .int mtolds, .ref (A 12)])), ((A 1), .inl (cy 0, 672, .inl (upd (upd v13 (u14).toNatClampNeg p0) (u15).toNatClampNeg p1))), ((A 2), .inl (cy 0, 672, .inl mkept)), ((A 3), .inl (cy 0, 672, .inl mspare)), ((A 4), .inl (cy 0, 672, .inl mtrial)), ((A 5), .inl (cy 0, 5376, .inl u6.2)), ((A 6), .inl (cy 0, 6, .inl mreport)), ((A 7), .inl (cy 0, 5, .inl mpart)), ((A 8), .inl (cy 0, 5, .inl mcome)), ((A 9), .inl (cy 0, 60, .inl morder)), ((A 10), .inl (cy 0, 80, .inl mtext)), ((A 11), .inl (cy 0, 200, .inl mtold)), ((A 12), .inl (cy 0, 672, .inl mahead))]) K 1 0 rfl rfl hw.1 rfl dX9_addMachine_156 ?_
              replace hw := hw.2
              refine g_aload_n K 2 dX9_addMachine_157 rfl ?_
              refine g_get K (C := RX9) (T := TX9) (N := 22) 0 0 in_X9_addMachine_X9 (by decide +kernel) rfl rfl (by decide) rfl dX9_addMachine_158 ?_
              refine g_iload K 1 dX9_addMachine_161 rfl ?_
              refine g_iconst (v := 2) K dX9_addMachine_163 rfl ?_
              refine g_callSr (st' := fun u16 => [.int u16, .ref (A 1)]) K hR [.int x7, .int 2] [.ref (A 1)] (c_X9_machineAt X.2.1 (gxD X) cy sd x7 2 hw) gX9_addMachine_X9_machineAt rfl yok_X9_machineAt rfl (by decide) rfl (Nat.le_of_ble_eq_true rfl) dX9_addMachine_164 [] rfl (by decide) (fun _ => rfl) ⟨rfl, rfl⟩ (fun u16 hw => ?_)
              refine g_iload_n K 5 dX9_addMachine_167 rfl ?_
              refine g_iast (ws' := [((A 0), .inr (10, [.ref (A 1), .ref (A 2), .ref (A 3), .ref (A 4), .int mhasKept, .ref (A 5), .int u6.1, .ref (A 6), .int mreports, .int 0, .ref (A 7), .ref (A 8), .ref (A 9), .int mordering, .int mdetail, .ref (A 10), .int mlength, .int mspot, .int mnumber, .ref (A 11), .int mtolds, .ref (A 12)])), ((A 1), .inl (cy 0, 672, .inl (upd (upd (upd v13 (u14).toNatClampNeg p0) (u15).toNatClampNeg p1) (u16).toNatClampNeg p2))), ((A 2), .inl (cy 0, 672, .inl mkept)), ((A 3), .inl (cy 0, 672, .inl mspare)), ((A 4), .inl (cy 0, 672, .inl mtrial)), ((A 5), .inl (cy 0, 5376, .inl u6.2)), ((A 6), .inl (cy 0, 6, .inl mreport)), ((A 7), .inl (cy 0, 5, .inl mpart)), ((A 8), .inl (cy 0, 5, .inl mcome)), ((A 9), .inl (cy 0, 60, .inl morder)), ((A 10), .inl (cy 0, 80, .inl mtext)), ((A 11), .inl (cy 0, 200, .inl mtold)), ((A 12), .inl (cy 0, 672, .inl mahead))]) K 1 0 rfl rfl hw.1 rfl dX9_addMachine_168 ?_
              replace hw := hw.2
              refine g_aload_n K 2 dX9_addMachine_169 rfl ?_
              refine g_get K (C := RX9) (T := TX9) (N := 22) 0 0 in_X9_addMachine_X9 (by decide +kernel) rfl rfl (by decide) rfl dX9_addMachine_170 ?_
              refine g_iload K 1 dX9_addMachine_173 rfl ?_
              refine g_iconst (v := 3) K dX9_addMachine_175 rfl ?_
              refine g_callSr (st' := fun u17 => [.int u17, .ref (A 1)]) K hR [.int x7, .int 3] [.ref (A 1)] (c_X9_machineAt X.2.1 (gxD X) cy sd x7 3 hw) gX9_addMachine_X9_machineAt rfl yok_X9_machineAt rfl (by decide) rfl (Nat.le_of_ble_eq_true rfl) dX9_addMachine_176 [] rfl (by decide) (fun _ => rfl) ⟨rfl, rfl⟩ (fun u17 hw => ?_)
              refine g_iload K 6 dX9_addMachine_179 rfl ?_
              refine g_iast (ws' := [((A 0), .inr (10, [.ref (A 1), .ref (A 2), .ref (A 3), .ref (A 4), .int mhasKept, .ref (A 5), .int u6.1, .ref (A 6), .int mreports, .int 0, .ref (A 7), .ref (A 8), .ref (A 9), .int mordering, .int mdetail, .ref (A 10), .int mlength, .int mspot, .int mnumber, .ref (A 11), .int mtolds, .ref (A 12)])), ((A 1), .inl (cy 0, 672, .inl (upd (upd (upd (upd v13 (u14).toNatClampNeg p0) (u15).toNatClampNeg p1) (u16).toNatClampNeg p2) (u17).toNatClampNeg p3))), ((A 2), .inl (cy 0, 672, .inl mkept)), ((A 3), .inl (cy 0, 672, .inl mspare)), ((A 4), .inl (cy 0, 672, .inl mtrial)), ((A 5), .inl (cy 0, 5376, .inl u6.2)), ((A 6), .inl (cy 0, 6, .inl mreport)), ((A 7), .inl (cy 0, 5, .inl mpart)), ((A 8), .inl (cy 0, 5, .inl mcome)), ((A 9), .inl (cy 0, 60, .inl morder)), ((A 10), .inl (cy 0, 80, .inl mtext)), ((A 11), .inl (cy 0, 200, .inl mtold)), ((A 12), .inl (cy 0, 672, .inl mahead))]) K 1 0 rfl rfl hw.1 rfl dX9_addMachine_181 ?_
              replace hw := hw.2
              refine g_aload_n K 2 dX9_addMachine_182 rfl ?_
              refine g_get K (C := RX9) (T := TX9) (N := 22) 0 0 in_X9_addMachine_X9 (by decide +kernel) rfl rfl (by decide) rfl dX9_addMachine_183 ?_
              refine g_iload K 1 dX9_addMachine_186 rfl ?_
              refine g_iconst (v := 4) K dX9_addMachine_188 rfl ?_
              refine g_callSr (st' := fun u18 => [.int u18, .ref (A 1)]) K hR [.int x7, .int 4] [.ref (A 1)] (c_X9_machineAt X.2.1 (gxD X) cy sd x7 4 hw) gX9_addMachine_X9_machineAt rfl yok_X9_machineAt rfl (by decide) rfl (Nat.le_of_ble_eq_true rfl) dX9_addMachine_189 [] rfl (by decide) (fun _ => rfl) ⟨rfl, rfl⟩ (fun u18 hw => ?_)
              refine g_iload K 7 dX9_addMachine_192 rfl ?_
              refine g_iast (ws' := [((A 0), .inr (10, [.ref (A 1), .ref (A 2), .ref (A 3), .ref (A 4), .int mhasKept, .ref (A 5), .int u6.1, .ref (A 6), .int mreports, .int 0, .ref (A 7), .ref (A 8), .ref (A 9), .int mordering, .int mdetail, .ref (A 10), .int mlength, .int mspot, .int mnumber, .ref (A 11), .int mtolds, .ref (A 12)])), ((A 1), .inl (cy 0, 672, .inl (upd (upd (upd (upd (upd v13 (u14).toNatClampNeg p0) (u15).toNatClampNeg p1) (u16).toNatClampNeg p2) (u17).toNatClampNeg p3) (u18).toNatClampNeg p4))), ((A 2), .inl (cy 0, 672, .inl mkept)), ((A 3), .inl (cy 0, 672, .inl mspare)), ((A 4), .inl (cy 0, 672, .inl mtrial)), ((A 5), .inl (cy 0, 5376, .inl u6.2)), ((A 6), .inl (cy 0, 6, .inl mreport)), ((A 7), .inl (cy 0, 5, .inl mpart)), ((A 8), .inl (cy 0, 5, .inl mcome)), ((A 9), .inl (cy 0, 60, .inl morder)), ((A 10), .inl (cy 0, 80, .inl mtext)), ((A 11), .inl (cy 0, 200, .inl mtold)), ((A 12), .inl (cy 0, 672, .inl mahead))]) K 1 0 rfl rfl hw.1 rfl dX9_addMachine_194 ?_
              replace hw := hw.2
              refine g_iload K 1 dX9_addMachine_195 rfl ?_
              exact g_zret K E Er (x7, u6.1, 0, upd (upd (upd (upd (upd v13 (u14).toNatClampNeg p0) (u15).toNatClampNeg p1) (u16).toNatClampNeg p2) (u17).toNatClampNeg p3) (u18).toNatClampNeg p4, u6.2) hw rfl rfl rfl (Nat.le_refl _) (Nat.le_refl _) dX9_addMachine_197
            · replace hw := hw.1 hc
              refine g_iconst (v := 3) K dX9_addMachine_61 rfl ?_
              refine g_goto (tgt := 66) K dX9_addMachine_62 (by decide) ?_
              refine g_put (ty := .int) (ws' := [((A 0), .inr (10, [.ref (A 1), .ref (A 2), .ref (A 3), .ref (A 4), .int mhasKept, .ref (A 5), .int mpasts, .ref (A 6), .int mreports, .int 3, .ref (A 7), .ref (A 8), .ref (A 9), .int mordering, .int mdetail, .ref (A 10), .int mlength, .int mspot, .int mnumber, .ref (A 11), .int mtolds, .ref (A 12)])), ((A 1), .inl (cy 0, 672, .inl mg)), ((A 2), .inl (cy 0, 672, .inl mkept)), ((A 3), .inl (cy 0, 672, .inl mspare)), ((A 4), .inl (cy 0, 672, .inl mtrial)), ((A 5), .inl (cy 0, 5376, .inl mpast)), ((A 6), .inl (cy 0, 6, .inl mreport)), ((A 7), .inl (cy 0, 5, .inl mpart)), ((A 8), .inl (cy 0, 5, .inl mcome)), ((A 9), .inl (cy 0, 60, .inl morder)), ((A 10), .inl (cy 0, 80, .inl mtext)), ((A 11), .inl (cy 0, 200, .inl mtold)), ((A 12), .inl (cy 0, 672, .inl mahead))]) K (C := RX9) (T := TX9) (N := 22) 0 9 in_X9_addMachine_X9 tyX9 tyX9_ok nmX9 (by decide +kernel) rfl rfl (by decide) rfl (by decide +kernel) rfl rfl (Nat.le_of_ble_eq_true rfl) rfl dX9_addMachine_66 ?_
              refine g_aload_n K 0 dX9_addMachine_69 rfl ?_
              refine g_get K (C := RX9) (T := TX9) (N := 22) 0 9 in_X9_addMachine_X9 (by decide +kernel) rfl rfl (by decide) rfl dX9_addMachine_70 ?_
              refine g_if_le (tgt := 78) K dX9_addMachine_73 (by decide) (fun hc => absurd hc (by decide)) (fun _ => ?_)
              refine g_iconst (v := 0) K dX9_addMachine_76 rfl ?_
              exact g_zret K E Er (0, mpasts, 3, mg, mpast) hw rfl rfl rfl (Nat.le_refl _) (Nat.le_refl _) dX9_addMachine_77
          · replace hw := hw.2 hc
            refine g_iconst (v := 2) K dX9_addMachine_46 rfl ?_
            refine g_goto (tgt := 66) K dX9_addMachine_47 (by decide) ?_
            refine g_put (ty := .int) (ws' := [((A 0), .inr (10, [.ref (A 1), .ref (A 2), .ref (A 3), .ref (A 4), .int mhasKept, .ref (A 5), .int mpasts, .ref (A 6), .int mreports, .int 2, .ref (A 7), .ref (A 8), .ref (A 9), .int mordering, .int mdetail, .ref (A 10), .int mlength, .int mspot, .int mnumber, .ref (A 11), .int mtolds, .ref (A 12)])), ((A 1), .inl (cy 0, 672, .inl mg)), ((A 2), .inl (cy 0, 672, .inl mkept)), ((A 3), .inl (cy 0, 672, .inl mspare)), ((A 4), .inl (cy 0, 672, .inl mtrial)), ((A 5), .inl (cy 0, 5376, .inl mpast)), ((A 6), .inl (cy 0, 6, .inl mreport)), ((A 7), .inl (cy 0, 5, .inl mpart)), ((A 8), .inl (cy 0, 5, .inl mcome)), ((A 9), .inl (cy 0, 60, .inl morder)), ((A 10), .inl (cy 0, 80, .inl mtext)), ((A 11), .inl (cy 0, 200, .inl mtold)), ((A 12), .inl (cy 0, 672, .inl mahead))]) K (C := RX9) (T := TX9) (N := 22) 0 9 in_X9_addMachine_X9 tyX9 tyX9_ok nmX9 (by decide +kernel) rfl rfl (by decide) rfl (by decide +kernel) rfl rfl (Nat.le_of_ble_eq_true rfl) rfl dX9_addMachine_66 ?_
            refine g_aload_n K 0 dX9_addMachine_69 rfl ?_
            refine g_get K (C := RX9) (T := TX9) (N := 22) 0 9 in_X9_addMachine_X9 (by decide +kernel) rfl rfl (by decide) rfl dX9_addMachine_70 ?_
            refine g_if_le (tgt := 78) K dX9_addMachine_73 (by decide) (fun hc => absurd hc (by decide)) (fun _ => ?_)
            refine g_iconst (v := 0) K dX9_addMachine_76 rfl ?_
            exact g_zret K E Er (0, mpasts, 2, mg, mpast) hw rfl rfl rfl (Nat.le_refl _) (Nat.le_refl _) dX9_addMachine_77
  · replace hw := hw.2 hc
    refine g_iconst (v := 1) K dX9_addMachine_8 rfl ?_
    refine g_goto (tgt := 66) K dX9_addMachine_9 (by decide) ?_
    refine g_put (ty := .int) (ws' := [((A 0), .inr (10, [.ref (A 1), .ref (A 2), .ref (A 3), .ref (A 4), .int mhasKept, .ref (A 5), .int mpasts, .ref (A 6), .int mreports, .int 1, .ref (A 7), .ref (A 8), .ref (A 9), .int mordering, .int mdetail, .ref (A 10), .int mlength, .int mspot, .int mnumber, .ref (A 11), .int mtolds, .ref (A 12)])), ((A 1), .inl (cy 0, 672, .inl mg)), ((A 2), .inl (cy 0, 672, .inl mkept)), ((A 3), .inl (cy 0, 672, .inl mspare)), ((A 4), .inl (cy 0, 672, .inl mtrial)), ((A 5), .inl (cy 0, 5376, .inl mpast)), ((A 6), .inl (cy 0, 6, .inl mreport)), ((A 7), .inl (cy 0, 5, .inl mpart)), ((A 8), .inl (cy 0, 5, .inl mcome)), ((A 9), .inl (cy 0, 60, .inl morder)), ((A 10), .inl (cy 0, 80, .inl mtext)), ((A 11), .inl (cy 0, 200, .inl mtold)), ((A 12), .inl (cy 0, 672, .inl mahead))]) K (C := RX9) (T := TX9) (N := 22) 0 9 in_X9_addMachine_X9 tyX9 tyX9_ok nmX9 (by decide +kernel) rfl rfl (by decide) rfl (by decide +kernel) rfl rfl (Nat.le_of_ble_eq_true rfl) rfl dX9_addMachine_66 ?_
    refine g_aload_n K 0 dX9_addMachine_69 rfl ?_
    refine g_get K (C := RX9) (T := TX9) (N := 22) 0 9 in_X9_addMachine_X9 (by decide +kernel) rfl rfl (by decide) rfl dX9_addMachine_70 ?_
    refine g_if_le (tgt := 78) K dX9_addMachine_73 (by decide) (fun hc => absurd hc (by decide)) (fun _ => ?_)
    refine g_iconst (v := 0) K dX9_addMachine_76 rfl ?_
    exact g_zret K E Er (0, mpasts, 1, mg, mpast) hw rfl rfl rfl (Nat.le_refl _) (Nat.le_refl _) dX9_addMachine_77

def wp_X9_removeMachine_L58 (u2 : Int32) (k58_89 : Int32 → XRow → Prop) : Nat → Int32 → XRow → Prop
  | 0, _, _ => False
  | fu + 1, v3, v4 => (5 ≤ v3 → (k58_89 v3 v4)) ∧ (¬ 5 ≤ v3 → (vp_in (11 + v3) 672 ∧ (vp_in (u2 + v3) 672 ∧ (vp_in (11 + v3) 672 ∧ (∀ x5 : Int32, x5 = v3 + 1 → (wp_X9_removeMachine_L58 u2 k58_89 fu x5 (upd v4 (11 + v3).toNatClampNeg ((v4 (11 + v3).toNatClampNeg) + (v4 (u2 + v3).toNatClampNeg)))))))))
def wp_X9_removeMachine (mg : XRow) (mpast : XRow) (mpasts : Int32) (post : (Int32 × Int32 × Int32 × XRow × XRow) → Prop) : Prop := vp_in 0 672 ∧ (((mg ((0 : Int32).toNatClampNeg)) = 0 → (post (0, mpasts, 1, mg, mpast))) ∧ (¬ (mg ((0 : Int32).toNatClampNeg)) = 0 → (wp_X9_changes_o1 mg mpast mpasts (fun u1 : Int32 × XRow => vp_in 0 672 ∧ (vp_in 0 672 ∧ (vp_in 0 672 ∧ (wp_X9_machineAt ((upd mg ((0 : Int32).toNatClampNeg) ((mg ((0 : Int32).toNatClampNeg)) - 1)) ((0 : Int32).toNatClampNeg)) 5 (fun u2 : Int32 => ∃ fl, wp_X9_removeMachine_L58 u2 (fun (v6 : Int32) (v7 : XRow) => wp_X9_sum v7 u2 (fun u8 : Int32 => post (u8, u1.1, 0, v7, u1.2))) fl 0 (upd mg ((0 : Int32).toNatClampNeg) ((mg ((0 : Int32).toNatClampNeg)) - 1))))))))))
theorem in_X9_removeMachine_X9 : ∀ w ∈ u_ws RX9 TX9 22, w ∈ wsX9_removeMachine := by decide +kernel
set_option maxRecDepth 100000 in
set_option maxHeartbeats 4000000 in
theorem c_X9_removeMachine (l : Launch) (D : va_G) (cy : Nat → ClassId) (sd : xSd) (A : Nat → Nat) (mg : XRow) (mkept : XRow) (mspare : XRow) (mtrial : XRow) (mpast : XRow) (mreport : XRow) (mpart : XRow) (mcome : XRow) (morder : XRow) (mtext : XRow) (mtold : XRow) (mahead : XRow) (mhasKept : Int32) (mpasts : Int32) (mreports : Int32) (mthrown : Int32) (mordering : Int32) (mdetail : Int32) (mlength : Int32) (mspot : Int32) (mnumber : Int32) (mtolds : Int32) {post : (Int32 × Int32 × Int32 × XRow × XRow) → Prop} (hw : wp_X9_removeMachine mg mpast mpasts post) : Ctr l D (xTys cy) sd yX9_removeMachine wsX9_removeMachine ({ frames := 2, cells := 0, slots := 0, locals := 46 } : Room) [.ref (A 0)] (fun u : Int32 × Int32 × Int32 × XRow × XRow => some (.int u.1)) [((A 0), .inr (10, [.ref (A 1), .ref (A 2), .ref (A 3), .ref (A 4), .int mhasKept, .ref (A 5), .int mpasts, .ref (A 6), .int mreports, .int mthrown, .ref (A 7), .ref (A 8), .ref (A 9), .int mordering, .int mdetail, .ref (A 10), .int mlength, .int mspot, .int mnumber, .ref (A 11), .int mtolds, .ref (A 12)])), ((A 1), .inl (cy 0, 672, .inl mg)), ((A 2), .inl (cy 0, 672, .inl mkept)), ((A 3), .inl (cy 0, 672, .inl mspare)), ((A 4), .inl (cy 0, 672, .inl mtrial)), ((A 5), .inl (cy 0, 5376, .inl mpast)), ((A 6), .inl (cy 0, 6, .inl mreport)), ((A 7), .inl (cy 0, 5, .inl mpart)), ((A 8), .inl (cy 0, 5, .inl mcome)), ((A 9), .inl (cy 0, 60, .inl morder)), ((A 10), .inl (cy 0, 80, .inl mtext)), ((A 11), .inl (cy 0, 200, .inl mtold)), ((A 12), .inl (cy 0, 672, .inl mahead))] (fun u => [((A 0), .inr (10, [.ref (A 1), .ref (A 2), .ref (A 3), .ref (A 4), .int mhasKept, .ref (A 5), .int u.2.1, .ref (A 6), .int mreports, .int u.2.2.1, .ref (A 7), .ref (A 8), .ref (A 9), .int mordering, .int mdetail, .ref (A 10), .int mlength, .int mspot, .int mnumber, .ref (A 11), .int mtolds, .ref (A 12)])), ((A 1), .inl (cy 0, 672, .inl u.2.2.2.1)), ((A 2), .inl (cy 0, 672, .inl mkept)), ((A 3), .inl (cy 0, 672, .inl mspare)), ((A 4), .inl (cy 0, 672, .inl mtrial)), ((A 5), .inl (cy 0, 5376, .inl u.2.2.2.2)), ((A 6), .inl (cy 0, 6, .inl mreport)), ((A 7), .inl (cy 0, 5, .inl mpart)), ((A 8), .inl (cy 0, 5, .inl mcome)), ((A 9), .inl (cy 0, 60, .inl morder)), ((A 10), .inl (cy 0, 80, .inl mtext)), ((A 11), .inl (cy 0, 200, .inl mtold)), ((A 12), .inl (cy 0, 672, .inl mahead))]) post := by
  refine Ctr.of (cc := cX9_removeMachine) (maxL := 3) (ret := (some .int)) (lv0 := [(0, .ref (A 0))]) (by decide) rfl (Nat.le_of_ble_eq_true rfl) rfl ?_
  intro X El hR Er Enm ED E En K
  have K : Cx X cX9_removeMachine RX9 wsX9_removeMachine (xTys cy) sd := K
  have E : X.2.2.2.2.2.2.2.2.2.2.1 = xMQ X (fun u : Int32 × Int32 × Int32 × XRow × XRow => some (.int u.1)) post (fun u => [((A 0), .inr (10, [.ref (A 1), .ref (A 2), .ref (A 3), .ref (A 4), .int mhasKept, .ref (A 5), .int u.2.1, .ref (A 6), .int mreports, .int u.2.2.1, .ref (A 7), .ref (A 8), .ref (A 9), .int mordering, .int mdetail, .ref (A 10), .int mlength, .int mspot, .int mnumber, .ref (A 11), .int mtolds, .ref (A 12)])), ((A 1), .inl (cy 0, 672, .inl u.2.2.2.1)), ((A 2), .inl (cy 0, 672, .inl mkept)), ((A 3), .inl (cy 0, 672, .inl mspare)), ((A 4), .inl (cy 0, 672, .inl mtrial)), ((A 5), .inl (cy 0, 5376, .inl u.2.2.2.2)), ((A 6), .inl (cy 0, 6, .inl mreport)), ((A 7), .inl (cy 0, 5, .inl mpart)), ((A 8), .inl (cy 0, 5, .inl mcome)), ((A 9), .inl (cy 0, 60, .inl morder)), ((A 10), .inl (cy 0, 80, .inl mtext)), ((A 11), .inl (cy 0, 200, .inl mtold)), ((A 12), .inl (cy 0, 672, .inl mahead))]) 0 0 := E
  unfold wp_X9_removeMachine at hw
  refine g_aload_n K 0 dX9_removeMachine_0 rfl ?_
  refine g_aload_n K 0 dX9_removeMachine_1 rfl ?_
  refine g_get K (C := RX9) (T := TX9) (N := 22) 0 0 in_X9_removeMachine_X9 (by decide +kernel) rfl rfl (by decide) rfl dX9_removeMachine_2 ?_
  refine g_iconst (v := 0) K dX9_removeMachine_5 rfl ?_
  refine g_iald K 1 0 rfl rfl hw.1 dX9_removeMachine_6 ?_
  replace hw := hw.2
  refine g_if_ne (tgt := 14) K dX9_removeMachine_7 (by decide) (fun hc => ?_) (fun hc => ?_)
  · replace hw := hw.2 hc
    refine g_iconst (v := 0) K dX9_removeMachine_14 rfl ?_
    refine g_put (ty := .int) (ws' := [((A 0), .inr (10, [.ref (A 1), .ref (A 2), .ref (A 3), .ref (A 4), .int mhasKept, .ref (A 5), .int mpasts, .ref (A 6), .int mreports, .int 0, .ref (A 7), .ref (A 8), .ref (A 9), .int mordering, .int mdetail, .ref (A 10), .int mlength, .int mspot, .int mnumber, .ref (A 11), .int mtolds, .ref (A 12)])), ((A 1), .inl (cy 0, 672, .inl mg)), ((A 2), .inl (cy 0, 672, .inl mkept)), ((A 3), .inl (cy 0, 672, .inl mspare)), ((A 4), .inl (cy 0, 672, .inl mtrial)), ((A 5), .inl (cy 0, 5376, .inl mpast)), ((A 6), .inl (cy 0, 6, .inl mreport)), ((A 7), .inl (cy 0, 5, .inl mpart)), ((A 8), .inl (cy 0, 5, .inl mcome)), ((A 9), .inl (cy 0, 60, .inl morder)), ((A 10), .inl (cy 0, 80, .inl mtext)), ((A 11), .inl (cy 0, 200, .inl mtold)), ((A 12), .inl (cy 0, 672, .inl mahead))]) K (C := RX9) (T := TX9) (N := 22) 0 9 in_X9_removeMachine_X9 tyX9 tyX9_ok nmX9 (by decide +kernel) rfl rfl (by decide) rfl (by decide +kernel) rfl rfl (Nat.le_of_ble_eq_true rfl) rfl dX9_removeMachine_15 ?_
    refine g_aload_n K 0 dX9_removeMachine_18 rfl ?_
    refine g_get K (C := RX9) (T := TX9) (N := 22) 0 9 in_X9_removeMachine_X9 (by decide +kernel) rfl rfl (by decide) rfl dX9_removeMachine_19 ?_
    refine g_if_le (tgt := 27) K dX9_removeMachine_22 (by decide) (fun _ => ?_) (fun hc => absurd (by decide) hc)
    refine g_aload_n K 0 dX9_removeMachine_27 rfl ?_
    refine g_aload_n K 0 dX9_removeMachine_28 rfl ?_
    refine g_get K (C := RX9) (T := TX9) (N := 22) 0 0 in_X9_removeMachine_X9 (by decide +kernel) rfl rfl (by decide) rfl dX9_removeMachine_29 ?_
    refine g_callV (st' := fun u1 => []) (ws' := fun u1 => [((A 0), .inr (10, [.ref (A 1), .ref (A 2), .ref (A 3), .ref (A 4), .int mhasKept, .ref (A 5), .int u1.1, .ref (A 6), .int mreports, .int 0, .ref (A 7), .ref (A 8), .ref (A 9), .int mordering, .int mdetail, .ref (A 10), .int mlength, .int mspot, .int mnumber, .ref (A 11), .int mtolds, .ref (A 12)])), ((A 1), .inl (cy 0, 672, .inl mg)), ((A 2), .inl (cy 0, 672, .inl mkept)), ((A 3), .inl (cy 0, 672, .inl mspare)), ((A 4), .inl (cy 0, 672, .inl mtrial)), ((A 5), .inl (cy 0, 5376, .inl u1.2)), ((A 6), .inl (cy 0, 6, .inl mreport)), ((A 7), .inl (cy 0, 5, .inl mpart)), ((A 8), .inl (cy 0, 5, .inl mcome)), ((A 9), .inl (cy 0, 60, .inl morder)), ((A 10), .inl (cy 0, 80, .inl mtext)), ((A 11), .inl (cy 0, 200, .inl mtold)), ((A 12), .inl (cy 0, 672, .inl mahead))]) K hR [.ref (A 1)] [] 0 rfl rfl (c_X9_changes_o1 X.2.1 (gxD X) cy sd A mg mkept mspare mtrial mpast mreport mpart mcome morder mtext mtold mahead mhasKept mpasts mreports 0 mordering mdetail mlength mspot mnumber mtolds hw) gX9_removeMachine_X9_changes rfl yok_X9_changes rfl rfl (by decide) rfl (Nat.le_of_ble_eq_true rfl) dX9_removeMachine_32 [0, 1, 2, 3, 4, 5, 6, 7, 8, 9, 10, 11, 12] rfl (by decide) (fun _ => rfl) (fun _ => rfl) (fun _ => rfl) ⟨rfl, rfl⟩ (fun u1 hw => ?_)
    refine g_aload_n K 0 dX9_removeMachine_35 rfl ?_
    refine g_get K (C := RX9) (T := TX9) (N := 22) 0 0 in_X9_removeMachine_X9 (by decide +kernel) rfl rfl (by decide) rfl dX9_removeMachine_36 ?_
    refine g_iconst (v := 0) K dX9_removeMachine_39 rfl ?_
    refine g_dup2_11 K dX9_removeMachine_40 rfl rfl ?_
    refine g_iald K 1 0 rfl rfl hw.1 dX9_removeMachine_41 ?_
    replace hw := hw.2
    refine g_iconst (v := 1) K dX9_removeMachine_42 rfl ?_
    refine g_isub K dX9_removeMachine_43 ?_
    refine g_iast (ws' := [((A 0), .inr (10, [.ref (A 1), .ref (A 2), .ref (A 3), .ref (A 4), .int mhasKept, .ref (A 5), .int u1.1, .ref (A 6), .int mreports, .int 0, .ref (A 7), .ref (A 8), .ref (A 9), .int mordering, .int mdetail, .ref (A 10), .int mlength, .int mspot, .int mnumber, .ref (A 11), .int mtolds, .ref (A 12)])), ((A 1), .inl (cy 0, 672, .inl (upd mg ((0 : Int32).toNatClampNeg) ((mg ((0 : Int32).toNatClampNeg)) - 1)))), ((A 2), .inl (cy 0, 672, .inl mkept)), ((A 3), .inl (cy 0, 672, .inl mspare)), ((A 4), .inl (cy 0, 672, .inl mtrial)), ((A 5), .inl (cy 0, 5376, .inl u1.2)), ((A 6), .inl (cy 0, 6, .inl mreport)), ((A 7), .inl (cy 0, 5, .inl mpart)), ((A 8), .inl (cy 0, 5, .inl mcome)), ((A 9), .inl (cy 0, 60, .inl morder)), ((A 10), .inl (cy 0, 80, .inl mtext)), ((A 11), .inl (cy 0, 200, .inl mtold)), ((A 12), .inl (cy 0, 672, .inl mahead))]) K 1 0 rfl rfl hw.1 rfl dX9_removeMachine_44 ?_
    replace hw := hw.2
    refine g_aload_n K 0 dX9_removeMachine_45 rfl ?_
    refine g_get K (C := RX9) (T := TX9) (N := 22) 0 0 in_X9_removeMachine_X9 (by decide +kernel) rfl rfl (by decide) rfl dX9_removeMachine_46 ?_
    refine g_iconst (v := 0) K dX9_removeMachine_49 rfl ?_
    refine g_iald K 1 0 rfl rfl hw.1 dX9_removeMachine_50 ?_
    replace hw := hw.2
    refine g_iconst (v := 5) K dX9_removeMachine_51 rfl ?_
    refine g_callSr (st' := fun u2 => [.int u2]) K hR [.int ((upd mg ((0 : Int32).toNatClampNeg) ((mg ((0 : Int32).toNatClampNeg)) - 1)) ((0 : Int32).toNatClampNeg)), .int 5] [] (c_X9_machineAt X.2.1 (gxD X) cy sd ((upd mg ((0 : Int32).toNatClampNeg) ((mg ((0 : Int32).toNatClampNeg)) - 1)) ((0 : Int32).toNatClampNeg)) 5 hw) gX9_removeMachine_X9_machineAt rfl yok_X9_machineAt rfl (by decide) rfl (Nat.le_of_ble_eq_true rfl) dX9_removeMachine_52 [] rfl (by decide) (fun _ => rfl) ⟨rfl, rfl⟩ (fun u2 hw => ?_)
    refine g_istore_n (lv' := [(1, .int u2), (0, .ref (A 0))]) K dX9_removeMachine_55 rfl (by rw [En]; decide) rfl ?_
    refine g_iconst (v := 0) K dX9_removeMachine_56 rfl ?_
    refine g_istore_n (lv' := [(2, .int 0), (1, .int u2), (0, .ref (A 0))]) K dX9_removeMachine_57 rfl (by rw [En]; decide) rfl ?_
    obtain ⟨fl, hw⟩ := hw
    have key : ∀ (k58_89 : Int32 → XRow → Prop), (∀ (v3 : Int32) (v4 : XRow), k58_89 v3 v4 → Gx X 0 0 [((A 0), .inr (10, [.ref (A 1), .ref (A 2), .ref (A 3), .ref (A 4), .int mhasKept, .ref (A 5), .int u1.1, .ref (A 6), .int mreports, .int 0, .ref (A 7), .ref (A 8), .ref (A 9), .int mordering, .int mdetail, .ref (A 10), .int mlength, .int mspot, .int mnumber, .ref (A 11), .int mtolds, .ref (A 12)])), ((A 1), .inl (cy 0, 672, .inl v4)), ((A 2), .inl (cy 0, 672, .inl mkept)), ((A 3), .inl (cy 0, 672, .inl mspare)), ((A 4), .inl (cy 0, 672, .inl mtrial)), ((A 5), .inl (cy 0, 5376, .inl u1.2)), ((A 6), .inl (cy 0, 6, .inl mreport)), ((A 7), .inl (cy 0, 5, .inl mpart)), ((A 8), .inl (cy 0, 5, .inl mcome)), ((A 9), .inl (cy 0, 60, .inl morder)), ((A 10), .inl (cy 0, 80, .inl mtext)), ((A 11), .inl (cy 0, 200, .inl mtold)), ((A 12), .inl (cy 0, 672, .inl mahead))] [(2, .int v3), (1, .int u2), (0, .ref (A 0))] 89 []) → ∀ (n : Nat) (v3 : Int32) (v4 : XRow), wp_X9_removeMachine_L58 u2 k58_89 n v3 v4 → Gx X 0 0 [((A 0), .inr (10, [.ref (A 1), .ref (A 2), .ref (A 3), .ref (A 4), .int mhasKept, .ref (A 5), .int u1.1, .ref (A 6), .int mreports, .int 0, .ref (A 7), .ref (A 8), .ref (A 9), .int mordering, .int mdetail, .ref (A 10), .int mlength, .int mspot, .int mnumber, .ref (A 11), .int mtolds, .ref (A 12)])), ((A 1), .inl (cy 0, 672, .inl v4)), ((A 2), .inl (cy 0, 672, .inl mkept)), ((A 3), .inl (cy 0, 672, .inl mspare)), ((A 4), .inl (cy 0, 672, .inl mtrial)), ((A 5), .inl (cy 0, 5376, .inl u1.2)), ((A 6), .inl (cy 0, 6, .inl mreport)), ((A 7), .inl (cy 0, 5, .inl mpart)), ((A 8), .inl (cy 0, 5, .inl mcome)), ((A 9), .inl (cy 0, 60, .inl morder)), ((A 10), .inl (cy 0, 80, .inl mtext)), ((A 11), .inl (cy 0, 200, .inl mtold)), ((A 12), .inl (cy 0, 672, .inl mahead))] [(2, .int v3), (1, .int u2), (0, .ref (A 0))] 58 [] := by
      intro k58_89 hx89 n
      induction n with
      | zero => intro v3 v4 hw; exact hw.elim
      | succ n ih =>
        intro v3 v4 hw
        refine g_iload_n K 0 dX9_removeMachine_58 rfl ?_
        refine g_iconst (v := 5) K dX9_removeMachine_59 rfl ?_
        refine g_icmp_ge (tgt := 89) K dX9_removeMachine_60 (by decide) (fun hc => ?_) (fun hc => ?_)
        · replace hw := hw.1 hc
          exact hx89 _ _ hw
        · replace hw := hw.2 hc
          refine g_aload_n K 2 dX9_removeMachine_63 rfl ?_
          refine g_get K (C := RX9) (T := TX9) (N := 22) 0 0 in_X9_removeMachine_X9 (by decide +kernel) rfl rfl (by decide) rfl dX9_removeMachine_64 ?_
          refine g_bipush (v := 11) K dX9_removeMachine_67 rfl ?_
          refine g_iload_n K 0 dX9_removeMachine_69 rfl ?_
          refine g_iadd K dX9_removeMachine_70 ?_
          refine g_dup2_11 K dX9_removeMachine_71 rfl rfl ?_
          refine g_iald K 1 0 rfl rfl hw.1 dX9_removeMachine_72 ?_
          replace hw := hw.2
          refine g_aload_n K 2 dX9_removeMachine_73 rfl ?_
          refine g_get K (C := RX9) (T := TX9) (N := 22) 0 0 in_X9_removeMachine_X9 (by decide +kernel) rfl rfl (by decide) rfl dX9_removeMachine_74 ?_
          refine g_iload_n K 1 dX9_removeMachine_77 rfl ?_
          refine g_iload_n K 0 dX9_removeMachine_78 rfl ?_
          refine g_iadd K dX9_removeMachine_79 ?_
          refine g_iald K 1 0 rfl rfl hw.1 dX9_removeMachine_80 ?_
          replace hw := hw.2
          refine g_iadd K dX9_removeMachine_81 ?_
          refine g_iast (ws' := [((A 0), .inr (10, [.ref (A 1), .ref (A 2), .ref (A 3), .ref (A 4), .int mhasKept, .ref (A 5), .int u1.1, .ref (A 6), .int mreports, .int 0, .ref (A 7), .ref (A 8), .ref (A 9), .int mordering, .int mdetail, .ref (A 10), .int mlength, .int mspot, .int mnumber, .ref (A 11), .int mtolds, .ref (A 12)])), ((A 1), .inl (cy 0, 672, .inl (upd v4 (11 + v3).toNatClampNeg ((v4 (11 + v3).toNatClampNeg) + (v4 (u2 + v3).toNatClampNeg))))), ((A 2), .inl (cy 0, 672, .inl mkept)), ((A 3), .inl (cy 0, 672, .inl mspare)), ((A 4), .inl (cy 0, 672, .inl mtrial)), ((A 5), .inl (cy 0, 5376, .inl u1.2)), ((A 6), .inl (cy 0, 6, .inl mreport)), ((A 7), .inl (cy 0, 5, .inl mpart)), ((A 8), .inl (cy 0, 5, .inl mcome)), ((A 9), .inl (cy 0, 60, .inl morder)), ((A 10), .inl (cy 0, 80, .inl mtext)), ((A 11), .inl (cy 0, 200, .inl mtold)), ((A 12), .inl (cy 0, 672, .inl mahead))]) K 1 0 rfl rfl hw.1 rfl dX9_removeMachine_82 ?_
          replace hw := hw.2
          obtain ⟨x5, ex5⟩ : ∃ z : Int32, z = v3 + 1 := ⟨_, rfl⟩
          replace hw := hw x5 ex5
          refine g_iinc (v := x5) (lv' := [(2, .int x5), (1, .int u2), (0, .ref (A 0))]) K 0 dX9_removeMachine_83 rfl (by rw [ex5]; rfl) (by rw [En]; decide) rfl ?_
          refine g_goto (tgt := 58) K dX9_removeMachine_86 (by decide) ?_
          exact ih _ _ hw
    refine key _ (fun v6 v7 hw => ?_) fl _ _ hw
    refine g_aload_n K 2 dX9_removeMachine_89 rfl ?_
    refine g_iload_n K 1 dX9_removeMachine_90 rfl ?_
    refine g_callVr (st' := fun u8 => [.int u8]) K hR [.int u2] [] 0 rfl rfl (c_X9_sum X.2.1 (gxD X) cy sd A v7 mkept mspare mtrial u1.2 mreport mpart mcome morder mtext mtold mahead mhasKept u1.1 mreports 0 mordering mdetail mlength mspot mnumber mtolds u2 hw) gX9_removeMachine_X9_sum rfl yok_X9_sum rfl rfl (by decide) rfl (Nat.le_of_ble_eq_true rfl) dX9_removeMachine_91 [0, 1, 2, 3, 4, 5, 6, 7, 8, 9, 10, 11, 12] rfl (by decide) (fun _ => rfl) ⟨rfl, rfl⟩ (fun u8 hw => ?_)
    exact g_zret K E Er (u8, u1.1, 0, v7, u1.2) hw rfl rfl rfl (Nat.le_refl _) (Nat.le_refl _) dX9_removeMachine_94
  · replace hw := hw.1 hc
    refine g_iconst (v := 1) K dX9_removeMachine_10 rfl ?_
    refine g_goto (tgt := 15) K dX9_removeMachine_11 (by decide) ?_
    refine g_put (ty := .int) (ws' := [((A 0), .inr (10, [.ref (A 1), .ref (A 2), .ref (A 3), .ref (A 4), .int mhasKept, .ref (A 5), .int mpasts, .ref (A 6), .int mreports, .int 1, .ref (A 7), .ref (A 8), .ref (A 9), .int mordering, .int mdetail, .ref (A 10), .int mlength, .int mspot, .int mnumber, .ref (A 11), .int mtolds, .ref (A 12)])), ((A 1), .inl (cy 0, 672, .inl mg)), ((A 2), .inl (cy 0, 672, .inl mkept)), ((A 3), .inl (cy 0, 672, .inl mspare)), ((A 4), .inl (cy 0, 672, .inl mtrial)), ((A 5), .inl (cy 0, 5376, .inl mpast)), ((A 6), .inl (cy 0, 6, .inl mreport)), ((A 7), .inl (cy 0, 5, .inl mpart)), ((A 8), .inl (cy 0, 5, .inl mcome)), ((A 9), .inl (cy 0, 60, .inl morder)), ((A 10), .inl (cy 0, 80, .inl mtext)), ((A 11), .inl (cy 0, 200, .inl mtold)), ((A 12), .inl (cy 0, 672, .inl mahead))]) K (C := RX9) (T := TX9) (N := 22) 0 9 in_X9_removeMachine_X9 tyX9 tyX9_ok nmX9 (by decide +kernel) rfl rfl (by decide) rfl (by decide +kernel) rfl rfl (Nat.le_of_ble_eq_true rfl) rfl dX9_removeMachine_15 ?_
    refine g_aload_n K 0 dX9_removeMachine_18 rfl ?_
    refine g_get K (C := RX9) (T := TX9) (N := 22) 0 9 in_X9_removeMachine_X9 (by decide +kernel) rfl rfl (by decide) rfl dX9_removeMachine_19 ?_
    refine g_if_le (tgt := 27) K dX9_removeMachine_22 (by decide) (fun hc => absurd hc (by decide)) (fun _ => ?_)
    refine g_iconst (v := 0) K dX9_removeMachine_25 rfl ?_
    exact g_zret K E Er (0, mpasts, 1, mg, mpast) hw rfl rfl rfl (Nat.le_refl _) (Nat.le_refl _) dX9_removeMachine_26

def wp_X9_exchange_L44 (p0 : Int32) (p1 : Int32) (k44_100 : Int32 → XRow → Prop) : Nat → Int32 → XRow → Prop
  | 0, _, _ => False
  | fu + 1, v4, v5 => (11 ≤ v4 → (k44_100 v4 v5)) ∧ (¬ 11 ≤ v4 → (wp_X9_machineAt p0 v4 (fun u6 : Int32 => vp_in u6 672 ∧ (∀ x7 : Int32, x7 = v5 (u6).toNatClampNeg → (wp_X9_machineAt p0 v4 (fun u8 : Int32 => wp_X9_machineAt p1 v4 (fun u9 : Int32 => vp_in u9 672 ∧ (vp_in u8 672 ∧ (wp_X9_machineAt p1 v4 (fun u10 : Int32 => vp_in u10 672 ∧ (∀ x11 : Int32, x11 = v4 + 1 → (wp_X9_exchange_L44 p0 p1 k44_100 fu x11 (upd (upd v5 (u8).toNatClampNeg (v5 (u9).toNatClampNeg)) (u10).toNatClampNeg x7)))))))))))))
def wp_X9_exchange (mg : XRow) (mpast : XRow) (mpasts : Int32) (p0 : Int32) (p1 : Int32) (post : (Int32 × Int32 × Int32 × XRow × XRow) → Prop) : Prop := wp_X9_isMachine mg p0 (fun u1 : Bool => (u1 = true → (wp_X9_isMachine mg p1 (fun u2 : Bool => (u2 = true → (wp_X9_changes_o1 mg mpast mpasts (fun u3 : Int32 × XRow => ∃ fl, wp_X9_exchange_L44 p0 p1 (fun (v12 : Int32) (v13 : XRow) => (p0 = p1 → (post (0, u3.1, 0, v13, u3.2))) ∧ (¬ p0 = p1 → ((p1 ≤ p0 → (post ((p0 - p1) - 1, u3.1, 0, v13, u3.2))) ∧ (¬ p1 ≤ p0 → (post ((p1 - p0) - 1, u3.1, 0, v13, u3.2)))))) fl 0 mg))) ∧ (u2 = false → (post (0, mpasts, 1, mg, mpast)))))) ∧ (u1 = false → (post (0, mpasts, 1, mg, mpast))))
theorem in_X9_exchange_X9 : ∀ w ∈ u_ws RX9 TX9 22, w ∈ wsX9_exchange := by decide +kernel
set_option maxRecDepth 100000 in
set_option maxHeartbeats 4000000 in
theorem c_X9_exchange (l : Launch) (D : va_G) (cy : Nat → ClassId) (sd : xSd) (A : Nat → Nat) (mg : XRow) (mkept : XRow) (mspare : XRow) (mtrial : XRow) (mpast : XRow) (mreport : XRow) (mpart : XRow) (mcome : XRow) (morder : XRow) (mtext : XRow) (mtold : XRow) (mahead : XRow) (mhasKept : Int32) (mpasts : Int32) (mreports : Int32) (mthrown : Int32) (mordering : Int32) (mdetail : Int32) (mlength : Int32) (mspot : Int32) (mnumber : Int32) (mtolds : Int32) (p0 : Int32) (p1 : Int32) {post : (Int32 × Int32 × Int32 × XRow × XRow) → Prop} (hw : wp_X9_exchange mg mpast mpasts p0 p1 post) : Ctr l D (xTys cy) sd yX9_exchange wsX9_exchange ({ frames := 2, cells := 0, slots := 0, locals := 46 } : Room) [.ref (A 0), .int p0, .int p1] (fun u : Int32 × Int32 × Int32 × XRow × XRow => some (.int u.1)) [((A 0), .inr (10, [.ref (A 1), .ref (A 2), .ref (A 3), .ref (A 4), .int mhasKept, .ref (A 5), .int mpasts, .ref (A 6), .int mreports, .int mthrown, .ref (A 7), .ref (A 8), .ref (A 9), .int mordering, .int mdetail, .ref (A 10), .int mlength, .int mspot, .int mnumber, .ref (A 11), .int mtolds, .ref (A 12)])), ((A 1), .inl (cy 0, 672, .inl mg)), ((A 2), .inl (cy 0, 672, .inl mkept)), ((A 3), .inl (cy 0, 672, .inl mspare)), ((A 4), .inl (cy 0, 672, .inl mtrial)), ((A 5), .inl (cy 0, 5376, .inl mpast)), ((A 6), .inl (cy 0, 6, .inl mreport)), ((A 7), .inl (cy 0, 5, .inl mpart)), ((A 8), .inl (cy 0, 5, .inl mcome)), ((A 9), .inl (cy 0, 60, .inl morder)), ((A 10), .inl (cy 0, 80, .inl mtext)), ((A 11), .inl (cy 0, 200, .inl mtold)), ((A 12), .inl (cy 0, 672, .inl mahead))] (fun u => [((A 0), .inr (10, [.ref (A 1), .ref (A 2), .ref (A 3), .ref (A 4), .int mhasKept, .ref (A 5), .int u.2.1, .ref (A 6), .int mreports, .int u.2.2.1, .ref (A 7), .ref (A 8), .ref (A 9), .int mordering, .int mdetail, .ref (A 10), .int mlength, .int mspot, .int mnumber, .ref (A 11), .int mtolds, .ref (A 12)])), ((A 1), .inl (cy 0, 672, .inl u.2.2.2.1)), ((A 2), .inl (cy 0, 672, .inl mkept)), ((A 3), .inl (cy 0, 672, .inl mspare)), ((A 4), .inl (cy 0, 672, .inl mtrial)), ((A 5), .inl (cy 0, 5376, .inl u.2.2.2.2)), ((A 6), .inl (cy 0, 6, .inl mreport)), ((A 7), .inl (cy 0, 5, .inl mpart)), ((A 8), .inl (cy 0, 5, .inl mcome)), ((A 9), .inl (cy 0, 60, .inl morder)), ((A 10), .inl (cy 0, 80, .inl mtext)), ((A 11), .inl (cy 0, 200, .inl mtold)), ((A 12), .inl (cy 0, 672, .inl mahead))]) post := by
  refine Ctr.of (cc := cX9_exchange) (maxL := 5) (ret := (some .int)) (lv0 := [(0, .ref (A 0)), (1, .int p0), (2, .int p1)]) (by decide) rfl (Nat.le_of_ble_eq_true rfl) rfl ?_
  intro X El hR Er Enm ED E En K
  have K : Cx X cX9_exchange RX9 wsX9_exchange (xTys cy) sd := K
  have E : X.2.2.2.2.2.2.2.2.2.2.1 = xMQ X (fun u : Int32 × Int32 × Int32 × XRow × XRow => some (.int u.1)) post (fun u => [((A 0), .inr (10, [.ref (A 1), .ref (A 2), .ref (A 3), .ref (A 4), .int mhasKept, .ref (A 5), .int u.2.1, .ref (A 6), .int mreports, .int u.2.2.1, .ref (A 7), .ref (A 8), .ref (A 9), .int mordering, .int mdetail, .ref (A 10), .int mlength, .int mspot, .int mnumber, .ref (A 11), .int mtolds, .ref (A 12)])), ((A 1), .inl (cy 0, 672, .inl u.2.2.2.1)), ((A 2), .inl (cy 0, 672, .inl mkept)), ((A 3), .inl (cy 0, 672, .inl mspare)), ((A 4), .inl (cy 0, 672, .inl mtrial)), ((A 5), .inl (cy 0, 5376, .inl u.2.2.2.2)), ((A 6), .inl (cy 0, 6, .inl mreport)), ((A 7), .inl (cy 0, 5, .inl mpart)), ((A 8), .inl (cy 0, 5, .inl mcome)), ((A 9), .inl (cy 0, 60, .inl morder)), ((A 10), .inl (cy 0, 80, .inl mtext)), ((A 11), .inl (cy 0, 200, .inl mtold)), ((A 12), .inl (cy 0, 672, .inl mahead))]) 0 0 := E
  unfold wp_X9_exchange at hw
  refine g_aload_n K 0 dX9_exchange_0 rfl ?_
  refine g_aload_n K 0 dX9_exchange_1 rfl ?_
  refine g_iload_n K 1 dX9_exchange_2 rfl ?_
  refine g_callVr (st' := fun u1 => [.int (bI u1), .ref (A 0)]) K hR [.int p0] [.ref (A 0)] 0 rfl rfl (c_X9_isMachine X.2.1 (gxD X) cy sd A mg mkept mspare mtrial mpast mreport mpart mcome morder mtext mtold mahead mhasKept mpasts mreports mthrown mordering mdetail mlength mspot mnumber mtolds p0 hw) gX9_exchange_X9_isMachine rfl yok_X9_isMachine rfl rfl (by decide) rfl (Nat.le_of_ble_eq_true rfl) dX9_exchange_3 [0, 1, 2, 3, 4, 5, 6, 7, 8, 9, 10, 11, 12] rfl (by decide) (fun _ => rfl) ⟨rfl, rfl⟩ (fun u1 hw => ?_)
  refine g_ifb_eq (tgt := 21) K dX9_exchange_6 (by decide) (fun hc => ?_) (fun hc => ?_)
  · replace hw := hw.2 hc
    refine g_iconst (v := 1) K dX9_exchange_21 rfl ?_
    refine g_put (ty := .int) (ws' := [((A 0), .inr (10, [.ref (A 1), .ref (A 2), .ref (A 3), .ref (A 4), .int mhasKept, .ref (A 5), .int mpasts, .ref (A 6), .int mreports, .int 1, .ref (A 7), .ref (A 8), .ref (A 9), .int mordering, .int mdetail, .ref (A 10), .int mlength, .int mspot, .int mnumber, .ref (A 11), .int mtolds, .ref (A 12)])), ((A 1), .inl (cy 0, 672, .inl mg)), ((A 2), .inl (cy 0, 672, .inl mkept)), ((A 3), .inl (cy 0, 672, .inl mspare)), ((A 4), .inl (cy 0, 672, .inl mtrial)), ((A 5), .inl (cy 0, 5376, .inl mpast)), ((A 6), .inl (cy 0, 6, .inl mreport)), ((A 7), .inl (cy 0, 5, .inl mpart)), ((A 8), .inl (cy 0, 5, .inl mcome)), ((A 9), .inl (cy 0, 60, .inl morder)), ((A 10), .inl (cy 0, 80, .inl mtext)), ((A 11), .inl (cy 0, 200, .inl mtold)), ((A 12), .inl (cy 0, 672, .inl mahead))]) K (C := RX9) (T := TX9) (N := 22) 0 9 in_X9_exchange_X9 tyX9 tyX9_ok nmX9 (by decide +kernel) rfl rfl (by decide) rfl (by decide +kernel) rfl rfl (Nat.le_of_ble_eq_true rfl) rfl dX9_exchange_22 ?_
    refine g_aload_n K 0 dX9_exchange_25 rfl ?_
    refine g_get K (C := RX9) (T := TX9) (N := 22) 0 9 in_X9_exchange_X9 (by decide +kernel) rfl rfl (by decide) rfl dX9_exchange_26 ?_
    refine g_if_le (tgt := 34) K dX9_exchange_29 (by decide) (fun hc => absurd hc (by decide)) (fun _ => ?_)
    refine g_iconst (v := 0) K dX9_exchange_32 rfl ?_
    exact g_zret K E Er (0, mpasts, 1, mg, mpast) hw rfl rfl rfl (Nat.le_refl _) (Nat.le_refl _) dX9_exchange_33
  · replace hw := hw.1 hc
    refine g_aload_n K 0 dX9_exchange_9 rfl ?_
    refine g_iload_n K 2 dX9_exchange_10 rfl ?_
    refine g_callVr (st' := fun u2 => [.int (bI u2), .ref (A 0)]) K hR [.int p1] [.ref (A 0)] 0 rfl rfl (c_X9_isMachine X.2.1 (gxD X) cy sd A mg mkept mspare mtrial mpast mreport mpart mcome morder mtext mtold mahead mhasKept mpasts mreports mthrown mordering mdetail mlength mspot mnumber mtolds p1 hw) gX9_exchange_X9_isMachine rfl yok_X9_isMachine rfl rfl (by decide) rfl (Nat.le_of_ble_eq_true rfl) dX9_exchange_11 [0, 1, 2, 3, 4, 5, 6, 7, 8, 9, 10, 11, 12] rfl (by decide) (fun _ => rfl) ⟨rfl, rfl⟩ (fun u2 hw => ?_)
    refine g_ifb_eq (tgt := 21) K dX9_exchange_14 (by decide) (fun hc => ?_) (fun hc => ?_)
    · replace hw := hw.2 hc
      refine g_iconst (v := 1) K dX9_exchange_21 rfl ?_
      refine g_put (ty := .int) (ws' := [((A 0), .inr (10, [.ref (A 1), .ref (A 2), .ref (A 3), .ref (A 4), .int mhasKept, .ref (A 5), .int mpasts, .ref (A 6), .int mreports, .int 1, .ref (A 7), .ref (A 8), .ref (A 9), .int mordering, .int mdetail, .ref (A 10), .int mlength, .int mspot, .int mnumber, .ref (A 11), .int mtolds, .ref (A 12)])), ((A 1), .inl (cy 0, 672, .inl mg)), ((A 2), .inl (cy 0, 672, .inl mkept)), ((A 3), .inl (cy 0, 672, .inl mspare)), ((A 4), .inl (cy 0, 672, .inl mtrial)), ((A 5), .inl (cy 0, 5376, .inl mpast)), ((A 6), .inl (cy 0, 6, .inl mreport)), ((A 7), .inl (cy 0, 5, .inl mpart)), ((A 8), .inl (cy 0, 5, .inl mcome)), ((A 9), .inl (cy 0, 60, .inl morder)), ((A 10), .inl (cy 0, 80, .inl mtext)), ((A 11), .inl (cy 0, 200, .inl mtold)), ((A 12), .inl (cy 0, 672, .inl mahead))]) K (C := RX9) (T := TX9) (N := 22) 0 9 in_X9_exchange_X9 tyX9 tyX9_ok nmX9 (by decide +kernel) rfl rfl (by decide) rfl (by decide +kernel) rfl rfl (Nat.le_of_ble_eq_true rfl) rfl dX9_exchange_22 ?_
      refine g_aload_n K 0 dX9_exchange_25 rfl ?_
      refine g_get K (C := RX9) (T := TX9) (N := 22) 0 9 in_X9_exchange_X9 (by decide +kernel) rfl rfl (by decide) rfl dX9_exchange_26 ?_
      refine g_if_le (tgt := 34) K dX9_exchange_29 (by decide) (fun hc => absurd hc (by decide)) (fun _ => ?_)
      refine g_iconst (v := 0) K dX9_exchange_32 rfl ?_
      exact g_zret K E Er (0, mpasts, 1, mg, mpast) hw rfl rfl rfl (Nat.le_refl _) (Nat.le_refl _) dX9_exchange_33
    · replace hw := hw.1 hc
      refine g_iconst (v := 0) K dX9_exchange_17 rfl ?_
      refine g_goto (tgt := 22) K dX9_exchange_18 (by decide) ?_
      refine g_put (ty := .int) (ws' := [((A 0), .inr (10, [.ref (A 1), .ref (A 2), .ref (A 3), .ref (A 4), .int mhasKept, .ref (A 5), .int mpasts, .ref (A 6), .int mreports, .int 0, .ref (A 7), .ref (A 8), .ref (A 9), .int mordering, .int mdetail, .ref (A 10), .int mlength, .int mspot, .int mnumber, .ref (A 11), .int mtolds, .ref (A 12)])), ((A 1), .inl (cy 0, 672, .inl mg)), ((A 2), .inl (cy 0, 672, .inl mkept)), ((A 3), .inl (cy 0, 672, .inl mspare)), ((A 4), .inl (cy 0, 672, .inl mtrial)), ((A 5), .inl (cy 0, 5376, .inl mpast)), ((A 6), .inl (cy 0, 6, .inl mreport)), ((A 7), .inl (cy 0, 5, .inl mpart)), ((A 8), .inl (cy 0, 5, .inl mcome)), ((A 9), .inl (cy 0, 60, .inl morder)), ((A 10), .inl (cy 0, 80, .inl mtext)), ((A 11), .inl (cy 0, 200, .inl mtold)), ((A 12), .inl (cy 0, 672, .inl mahead))]) K (C := RX9) (T := TX9) (N := 22) 0 9 in_X9_exchange_X9 tyX9 tyX9_ok nmX9 (by decide +kernel) rfl rfl (by decide) rfl (by decide +kernel) rfl rfl (Nat.le_of_ble_eq_true rfl) rfl dX9_exchange_22 ?_
      refine g_aload_n K 0 dX9_exchange_25 rfl ?_
      refine g_get K (C := RX9) (T := TX9) (N := 22) 0 9 in_X9_exchange_X9 (by decide +kernel) rfl rfl (by decide) rfl dX9_exchange_26 ?_
      refine g_if_le (tgt := 34) K dX9_exchange_29 (by decide) (fun _ => ?_) (fun hc => absurd (by decide) hc)
      refine g_aload_n K 0 dX9_exchange_34 rfl ?_
      refine g_aload_n K 0 dX9_exchange_35 rfl ?_
      refine g_get K (C := RX9) (T := TX9) (N := 22) 0 0 in_X9_exchange_X9 (by decide +kernel) rfl rfl (by decide) rfl dX9_exchange_36 ?_
      refine g_callV (st' := fun u3 => []) (ws' := fun u3 => [((A 0), .inr (10, [.ref (A 1), .ref (A 2), .ref (A 3), .ref (A 4), .int mhasKept, .ref (A 5), .int u3.1, .ref (A 6), .int mreports, .int 0, .ref (A 7), .ref (A 8), .ref (A 9), .int mordering, .int mdetail, .ref (A 10), .int mlength, .int mspot, .int mnumber, .ref (A 11), .int mtolds, .ref (A 12)])), ((A 1), .inl (cy 0, 672, .inl mg)), ((A 2), .inl (cy 0, 672, .inl mkept)), ((A 3), .inl (cy 0, 672, .inl mspare)), ((A 4), .inl (cy 0, 672, .inl mtrial)), ((A 5), .inl (cy 0, 5376, .inl u3.2)), ((A 6), .inl (cy 0, 6, .inl mreport)), ((A 7), .inl (cy 0, 5, .inl mpart)), ((A 8), .inl (cy 0, 5, .inl mcome)), ((A 9), .inl (cy 0, 60, .inl morder)), ((A 10), .inl (cy 0, 80, .inl mtext)), ((A 11), .inl (cy 0, 200, .inl mtold)), ((A 12), .inl (cy 0, 672, .inl mahead))]) K hR [.ref (A 1)] [] 0 rfl rfl (c_X9_changes_o1 X.2.1 (gxD X) cy sd A mg mkept mspare mtrial mpast mreport mpart mcome morder mtext mtold mahead mhasKept mpasts mreports 0 mordering mdetail mlength mspot mnumber mtolds hw) gX9_exchange_X9_changes rfl yok_X9_changes rfl rfl (by decide) rfl (Nat.le_of_ble_eq_true rfl) dX9_exchange_39 [0, 1, 2, 3, 4, 5, 6, 7, 8, 9, 10, 11, 12] rfl (by decide) (fun _ => rfl) (fun _ => rfl) (fun _ => rfl) ⟨rfl, rfl⟩ (fun u3 hw => ?_)
      refine g_iconst (v := 0) K dX9_exchange_42 rfl ?_
      refine g_istore_n (lv' := [(3, .int 0), (0, .ref (A 0)), (1, .int p0), (2, .int p1)]) K dX9_exchange_43 rfl (by rw [En]; decide) rfl ?_
      obtain ⟨fl, hw⟩ := hw
      have key : ∀ (k44_100 : Int32 → XRow → Prop), (∀ (v4 : Int32) (v5 : XRow), k44_100 v4 v5 → Gx X 0 0 [((A 0), .inr (10, [.ref (A 1), .ref (A 2), .ref (A 3), .ref (A 4), .int mhasKept, .ref (A 5), .int u3.1, .ref (A 6), .int mreports, .int 0, .ref (A 7), .ref (A 8), .ref (A 9), .int mordering, .int mdetail, .ref (A 10), .int mlength, .int mspot, .int mnumber, .ref (A 11), .int mtolds, .ref (A 12)])), ((A 1), .inl (cy 0, 672, .inl v5)), ((A 2), .inl (cy 0, 672, .inl mkept)), ((A 3), .inl (cy 0, 672, .inl mspare)), ((A 4), .inl (cy 0, 672, .inl mtrial)), ((A 5), .inl (cy 0, 5376, .inl u3.2)), ((A 6), .inl (cy 0, 6, .inl mreport)), ((A 7), .inl (cy 0, 5, .inl mpart)), ((A 8), .inl (cy 0, 5, .inl mcome)), ((A 9), .inl (cy 0, 60, .inl morder)), ((A 10), .inl (cy 0, 80, .inl mtext)), ((A 11), .inl (cy 0, 200, .inl mtold)), ((A 12), .inl (cy 0, 672, .inl mahead))] [(3, .int v4), (0, .ref (A 0)), (1, .int p0), (2, .int p1)] 100 []) → ∀ (n : Nat) (v4 : Int32) (v5 : XRow), wp_X9_exchange_L44 p0 p1 k44_100 n v4 v5 → Gx X 0 0 [((A 0), .inr (10, [.ref (A 1), .ref (A 2), .ref (A 3), .ref (A 4), .int mhasKept, .ref (A 5), .int u3.1, .ref (A 6), .int mreports, .int 0, .ref (A 7), .ref (A 8), .ref (A 9), .int mordering, .int mdetail, .ref (A 10), .int mlength, .int mspot, .int mnumber, .ref (A 11), .int mtolds, .ref (A 12)])), ((A 1), .inl (cy 0, 672, .inl v5)), ((A 2), .inl (cy 0, 672, .inl mkept)), ((A 3), .inl (cy 0, 672, .inl mspare)), ((A 4), .inl (cy 0, 672, .inl mtrial)), ((A 5), .inl (cy 0, 5376, .inl u3.2)), ((A 6), .inl (cy 0, 6, .inl mreport)), ((A 7), .inl (cy 0, 5, .inl mpart)), ((A 8), .inl (cy 0, 5, .inl mcome)), ((A 9), .inl (cy 0, 60, .inl morder)), ((A 10), .inl (cy 0, 80, .inl mtext)), ((A 11), .inl (cy 0, 200, .inl mtold)), ((A 12), .inl (cy 0, 672, .inl mahead))] [(3, .int v4), (0, .ref (A 0)), (1, .int p0), (2, .int p1)] 44 [] := by
        intro k44_100 hx100 n
        induction n with
        | zero => intro v4 v5 hw; exact hw.elim
        | succ n ih =>
          intro v4 v5 hw
          refine g_iload_n K 0 dX9_exchange_44 rfl ?_
          refine g_bipush (v := 11) K dX9_exchange_45 rfl ?_
          refine g_icmp_ge (tgt := 100) K dX9_exchange_47 (by decide) (fun hc => ?_) (fun hc => ?_)
          · replace hw := hw.1 hc
            exact hx100 _ _ hw
          · replace hw := hw.2 hc
            refine g_aload_n K 1 dX9_exchange_50 rfl ?_
            refine g_get K (C := RX9) (T := TX9) (N := 22) 0 0 in_X9_exchange_X9 (by decide +kernel) rfl rfl (by decide) rfl dX9_exchange_51 ?_
            refine g_iload_n K 2 dX9_exchange_54 rfl ?_
            refine g_iload_n K 0 dX9_exchange_55 rfl ?_
            refine g_callSr (st' := fun u6 => [.int u6, .ref (A 1)]) K hR [.int p0, .int v4] [.ref (A 1)] (c_X9_machineAt X.2.1 (gxD X) cy sd p0 v4 hw) gX9_exchange_X9_machineAt rfl yok_X9_machineAt rfl (by decide) rfl (Nat.le_of_ble_eq_true rfl) dX9_exchange_56 [] rfl (by decide) (fun _ => rfl) ⟨rfl, rfl⟩ (fun u6 hw => ?_)
            refine g_iald K 1 0 rfl rfl hw.1 dX9_exchange_59 ?_
            replace hw := hw.2
            refine g_topi (fun x7 ex7 => ?_)
            replace hw := hw x7 ex7
            refine g_istore (lv' := [(4, .int x7), (3, .int v4), (0, .ref (A 0)), (1, .int p0), (2, .int p1)]) K dX9_exchange_60 (by rw [En]; decide) rfl ?_
            refine g_aload_n K 2 dX9_exchange_62 rfl ?_
            refine g_get K (C := RX9) (T := TX9) (N := 22) 0 0 in_X9_exchange_X9 (by decide +kernel) rfl rfl (by decide) rfl dX9_exchange_63 ?_
            refine g_iload_n K 3 dX9_exchange_66 rfl ?_
            refine g_iload_n K 1 dX9_exchange_67 rfl ?_
            refine g_callSr (st' := fun u8 => [.int u8, .ref (A 1)]) K hR [.int p0, .int v4] [.ref (A 1)] (c_X9_machineAt X.2.1 (gxD X) cy sd p0 v4 hw) gX9_exchange_X9_machineAt rfl yok_X9_machineAt rfl (by decide) rfl (Nat.le_of_ble_eq_true rfl) dX9_exchange_68 [] rfl (by decide) (fun _ => rfl) ⟨rfl, rfl⟩ (fun u8 hw => ?_)
            refine g_aload_n K 2 dX9_exchange_71 rfl ?_
            refine g_get K (C := RX9) (T := TX9) (N := 22) 0 0 in_X9_exchange_X9 (by decide +kernel) rfl rfl (by decide) rfl dX9_exchange_72 ?_
            refine g_iload_n K 4 dX9_exchange_75 rfl ?_
            refine g_iload_n K 1 dX9_exchange_76 rfl ?_
            refine g_callSr (st' := fun u9 => [.int u9, .ref (A 1), .int u8, .ref (A 1)]) K hR [.int p1, .int v4] [.ref (A 1), .int u8, .ref (A 1)] (c_X9_machineAt X.2.1 (gxD X) cy sd p1 v4 hw) gX9_exchange_X9_machineAt rfl yok_X9_machineAt rfl (by decide) rfl (Nat.le_of_ble_eq_true rfl) dX9_exchange_77 [] rfl (by decide) (fun _ => rfl) ⟨rfl, rfl⟩ (fun u9 hw => ?_)
            refine g_iald K 1 0 rfl rfl hw.1 dX9_exchange_80 ?_
            replace hw := hw.2
            refine g_iast (ws' := [((A 0), .inr (10, [.ref (A 1), .ref (A 2), .ref (A 3), .ref (A 4), .int mhasKept, .ref (A 5), .int u3.1, .ref (A 6), .int mreports, .int 0, .ref (A 7), .ref (A 8), .ref (A 9), .int mordering, .int mdetail, .ref (A 10), .int mlength, .int mspot, .int mnumber, .ref (A 11), .int mtolds, .ref (A 12)])), ((A 1), .inl (cy 0, 672, .inl (upd v5 (u8).toNatClampNeg (v5 (u9).toNatClampNeg)))), ((A 2), .inl (cy 0, 672, .inl mkept)), ((A 3), .inl (cy 0, 672, .inl mspare)), ((A 4), .inl (cy 0, 672, .inl mtrial)), ((A 5), .inl (cy 0, 5376, .inl u3.2)), ((A 6), .inl (cy 0, 6, .inl mreport)), ((A 7), .inl (cy 0, 5, .inl mpart)), ((A 8), .inl (cy 0, 5, .inl mcome)), ((A 9), .inl (cy 0, 60, .inl morder)), ((A 10), .inl (cy 0, 80, .inl mtext)), ((A 11), .inl (cy 0, 200, .inl mtold)), ((A 12), .inl (cy 0, 672, .inl mahead))]) K 1 0 rfl rfl hw.1 rfl dX9_exchange_81 ?_
            replace hw := hw.2
            refine g_aload_n K 2 dX9_exchange_82 rfl ?_
            refine g_get K (C := RX9) (T := TX9) (N := 22) 0 0 in_X9_exchange_X9 (by decide +kernel) rfl rfl (by decide) rfl dX9_exchange_83 ?_
            refine g_iload_n K 4 dX9_exchange_86 rfl ?_
            refine g_iload_n K 1 dX9_exchange_87 rfl ?_
            refine g_callSr (st' := fun u10 => [.int u10, .ref (A 1)]) K hR [.int p1, .int v4] [.ref (A 1)] (c_X9_machineAt X.2.1 (gxD X) cy sd p1 v4 hw) gX9_exchange_X9_machineAt rfl yok_X9_machineAt rfl (by decide) rfl (Nat.le_of_ble_eq_true rfl) dX9_exchange_88 [] rfl (by decide) (fun _ => rfl) ⟨rfl, rfl⟩ (fun u10 hw => ?_)
            refine g_iload K 0 dX9_exchange_91 rfl ?_
            refine g_iast (ws' := [((A 0), .inr (10, [.ref (A 1), .ref (A 2), .ref (A 3), .ref (A 4), .int mhasKept, .ref (A 5), .int u3.1, .ref (A 6), .int mreports, .int 0, .ref (A 7), .ref (A 8), .ref (A 9), .int mordering, .int mdetail, .ref (A 10), .int mlength, .int mspot, .int mnumber, .ref (A 11), .int mtolds, .ref (A 12)])), ((A 1), .inl (cy 0, 672, .inl (upd (upd v5 (u8).toNatClampNeg (v5 (u9).toNatClampNeg)) (u10).toNatClampNeg x7))), ((A 2), .inl (cy 0, 672, .inl mkept)), ((A 3), .inl (cy 0, 672, .inl mspare)), ((A 4), .inl (cy 0, 672, .inl mtrial)), ((A 5), .inl (cy 0, 5376, .inl u3.2)), ((A 6), .inl (cy 0, 6, .inl mreport)), ((A 7), .inl (cy 0, 5, .inl mpart)), ((A 8), .inl (cy 0, 5, .inl mcome)), ((A 9), .inl (cy 0, 60, .inl morder)), ((A 10), .inl (cy 0, 80, .inl mtext)), ((A 11), .inl (cy 0, 200, .inl mtold)), ((A 12), .inl (cy 0, 672, .inl mahead))]) K 1 0 rfl rfl hw.1 rfl dX9_exchange_93 ?_
            replace hw := hw.2
            obtain ⟨x11, ex11⟩ : ∃ z : Int32, z = v4 + 1 := ⟨_, rfl⟩
            replace hw := hw x11 ex11
            refine g_iinc (v := x11) (lv' := [(3, .int x11), (4, .int x7), (0, .ref (A 0)), (1, .int p0), (2, .int p1)]) K 1 dX9_exchange_94 rfl (by rw [ex11]; rfl) (by rw [En]; decide) rfl ?_
            refine g_goto (tgt := 44) K dX9_exchange_97 (by decide) ?_
            refine gx_locals [0, 2, 3, 4] rfl ?_
            exact ih _ _ hw
      refine key _ (fun v12 v13 hw => ?_) fl _ _ hw
      refine g_iload_n K 2 dX9_exchange_100 rfl ?_
      refine g_iload_n K 3 dX9_exchange_101 rfl ?_
      refine g_icmp_ne (tgt := 109) K dX9_exchange_102 (by decide) (fun hc => ?_) (fun hc => ?_)
      · replace hw := hw.2 hc
        refine g_iload_n K 2 dX9_exchange_109 rfl ?_
        refine g_iload_n K 3 dX9_exchange_110 rfl ?_
        refine g_icmp_ge (tgt := 122) K dX9_exchange_111 (by decide) (fun hc => ?_) (fun hc => ?_)
        · replace hw := hw.1 hc
          refine g_iload_n K 2 dX9_exchange_122 rfl ?_
          refine g_iload_n K 3 dX9_exchange_123 rfl ?_
          refine g_isub K dX9_exchange_124 ?_
          refine g_iconst (v := 1) K dX9_exchange_125 rfl ?_
          refine g_isub K dX9_exchange_126 ?_
          exact g_zret K E Er ((p0 - p1) - 1, u3.1, 0, v13, u3.2) hw rfl rfl rfl (Nat.le_refl _) (Nat.le_refl _) dX9_exchange_127
        · replace hw := hw.2 hc
          refine g_iload_n K 3 dX9_exchange_114 rfl ?_
          refine g_iload_n K 2 dX9_exchange_115 rfl ?_
          refine g_isub K dX9_exchange_116 ?_
          refine g_iconst (v := 1) K dX9_exchange_117 rfl ?_
          refine g_isub K dX9_exchange_118 ?_
          refine g_goto (tgt := 127) K dX9_exchange_119 (by decide) ?_
          exact g_zret K E Er ((p1 - p0) - 1, u3.1, 0, v13, u3.2) hw rfl rfl rfl (Nat.le_refl _) (Nat.le_refl _) dX9_exchange_127
      · replace hw := hw.1 hc
        refine g_iconst (v := 0) K dX9_exchange_105 rfl ?_
        refine g_goto (tgt := 127) K dX9_exchange_106 (by decide) ?_
        exact g_zret K E Er (0, u3.1, 0, v13, u3.2) hw rfl rfl rfl (Nat.le_refl _) (Nat.le_refl _) dX9_exchange_127

def wp_X9_setMachine (mg : XRow) (mpast : XRow) (mpasts : Int32) (p0 : Int32) (p1 : Int32) (p2 : Int32) (post : (Int32 × Int32 × Int32 × XRow × XRow) → Prop) : Prop := wp_X9_isMachine mg p0 (fun u1 : Bool => (u1 = true → (wp_X9_mayBe p1 p2 (fun u2 : Bool => (u2 = true → (wp_X9_changes_o1 mg mpast mpasts (fun u3 : Int32 × XRow => wp_X9_machineAt p0 p1 (fun u4 : Int32 => vp_in u4 672 ∧ (∀ x5 : Int32, x5 = mg (u4).toNatClampNeg → (wp_X9_machineAt p0 p1 (fun u6 : Int32 => vp_in u6 672 ∧ (post (x5, u3.1, 0, upd mg (u6).toNatClampNeg p2, u3.2))))))))) ∧ (u2 = false → (post (0, mpasts, 2, mg, mpast)))))) ∧ (u1 = false → (post (0, mpasts, 1, mg, mpast))))
theorem in_X9_setMachine_X9 : ∀ w ∈ u_ws RX9 TX9 22, w ∈ wsX9_setMachine := by decide +kernel
set_option maxRecDepth 100000 in
set_option maxHeartbeats 4000000 in
theorem c_X9_setMachine (l : Launch) (D : va_G) (cy : Nat → ClassId) (sd : xSd) (A : Nat → Nat) (mg : XRow) (mkept : XRow) (mspare : XRow) (mtrial : XRow) (mpast : XRow) (mreport : XRow) (mpart : XRow) (mcome : XRow) (morder : XRow) (mtext : XRow) (mtold : XRow) (mahead : XRow) (mhasKept : Int32) (mpasts : Int32) (mreports : Int32) (mthrown : Int32) (mordering : Int32) (mdetail : Int32) (mlength : Int32) (mspot : Int32) (mnumber : Int32) (mtolds : Int32) (p0 : Int32) (p1 : Int32) (p2 : Int32) {post : (Int32 × Int32 × Int32 × XRow × XRow) → Prop} (hw : wp_X9_setMachine mg mpast mpasts p0 p1 p2 post) : Ctr l D (xTys cy) sd yX9_setMachine wsX9_setMachine ({ frames := 3, cells := 0, slots := 0, locals := 63 } : Room) [.ref (A 0), .int p0, .int p1, .int p2] (fun u : Int32 × Int32 × Int32 × XRow × XRow => some (.int u.1)) [((A 0), .inr (10, [.ref (A 1), .ref (A 2), .ref (A 3), .ref (A 4), .int mhasKept, .ref (A 5), .int mpasts, .ref (A 6), .int mreports, .int mthrown, .ref (A 7), .ref (A 8), .ref (A 9), .int mordering, .int mdetail, .ref (A 10), .int mlength, .int mspot, .int mnumber, .ref (A 11), .int mtolds, .ref (A 12)])), ((A 1), .inl (cy 0, 672, .inl mg)), ((A 2), .inl (cy 0, 672, .inl mkept)), ((A 3), .inl (cy 0, 672, .inl mspare)), ((A 4), .inl (cy 0, 672, .inl mtrial)), ((A 5), .inl (cy 0, 5376, .inl mpast)), ((A 6), .inl (cy 0, 6, .inl mreport)), ((A 7), .inl (cy 0, 5, .inl mpart)), ((A 8), .inl (cy 0, 5, .inl mcome)), ((A 9), .inl (cy 0, 60, .inl morder)), ((A 10), .inl (cy 0, 80, .inl mtext)), ((A 11), .inl (cy 0, 200, .inl mtold)), ((A 12), .inl (cy 0, 672, .inl mahead))] (fun u => [((A 0), .inr (10, [.ref (A 1), .ref (A 2), .ref (A 3), .ref (A 4), .int mhasKept, .ref (A 5), .int u.2.1, .ref (A 6), .int mreports, .int u.2.2.1, .ref (A 7), .ref (A 8), .ref (A 9), .int mordering, .int mdetail, .ref (A 10), .int mlength, .int mspot, .int mnumber, .ref (A 11), .int mtolds, .ref (A 12)])), ((A 1), .inl (cy 0, 672, .inl u.2.2.2.1)), ((A 2), .inl (cy 0, 672, .inl mkept)), ((A 3), .inl (cy 0, 672, .inl mspare)), ((A 4), .inl (cy 0, 672, .inl mtrial)), ((A 5), .inl (cy 0, 5376, .inl u.2.2.2.2)), ((A 6), .inl (cy 0, 6, .inl mreport)), ((A 7), .inl (cy 0, 5, .inl mpart)), ((A 8), .inl (cy 0, 5, .inl mcome)), ((A 9), .inl (cy 0, 60, .inl morder)), ((A 10), .inl (cy 0, 80, .inl mtext)), ((A 11), .inl (cy 0, 200, .inl mtold)), ((A 12), .inl (cy 0, 672, .inl mahead))]) post := by
  refine Ctr.of (cc := cX9_setMachine) (maxL := 5) (ret := (some .int)) (lv0 := [(0, .ref (A 0)), (1, .int p0), (2, .int p1), (3, .int p2)]) (by decide) rfl (Nat.le_of_ble_eq_true rfl) rfl ?_
  intro X El hR Er Enm ED E En K
  have K : Cx X cX9_setMachine RX9 wsX9_setMachine (xTys cy) sd := K
  have E : X.2.2.2.2.2.2.2.2.2.2.1 = xMQ X (fun u : Int32 × Int32 × Int32 × XRow × XRow => some (.int u.1)) post (fun u => [((A 0), .inr (10, [.ref (A 1), .ref (A 2), .ref (A 3), .ref (A 4), .int mhasKept, .ref (A 5), .int u.2.1, .ref (A 6), .int mreports, .int u.2.2.1, .ref (A 7), .ref (A 8), .ref (A 9), .int mordering, .int mdetail, .ref (A 10), .int mlength, .int mspot, .int mnumber, .ref (A 11), .int mtolds, .ref (A 12)])), ((A 1), .inl (cy 0, 672, .inl u.2.2.2.1)), ((A 2), .inl (cy 0, 672, .inl mkept)), ((A 3), .inl (cy 0, 672, .inl mspare)), ((A 4), .inl (cy 0, 672, .inl mtrial)), ((A 5), .inl (cy 0, 5376, .inl u.2.2.2.2)), ((A 6), .inl (cy 0, 6, .inl mreport)), ((A 7), .inl (cy 0, 5, .inl mpart)), ((A 8), .inl (cy 0, 5, .inl mcome)), ((A 9), .inl (cy 0, 60, .inl morder)), ((A 10), .inl (cy 0, 80, .inl mtext)), ((A 11), .inl (cy 0, 200, .inl mtold)), ((A 12), .inl (cy 0, 672, .inl mahead))]) 0 0 := E
  unfold wp_X9_setMachine at hw
  refine g_aload_n K 0 dX9_setMachine_0 rfl ?_
  refine g_aload_n K 0 dX9_setMachine_1 rfl ?_
  refine g_iload_n K 1 dX9_setMachine_2 rfl ?_
  refine g_callVr (st' := fun u1 => [.int (bI u1), .ref (A 0)]) K hR [.int p0] [.ref (A 0)] 0 rfl rfl (c_X9_isMachine X.2.1 (gxD X) cy sd A mg mkept mspare mtrial mpast mreport mpart mcome morder mtext mtold mahead mhasKept mpasts mreports mthrown mordering mdetail mlength mspot mnumber mtolds p0 hw) gX9_setMachine_X9_isMachine rfl yok_X9_isMachine rfl rfl (by decide) rfl (Nat.le_of_ble_eq_true rfl) dX9_setMachine_3 [0, 1, 2, 3, 4, 5, 6, 7, 8, 9, 10, 11, 12] rfl (by decide) (fun _ => rfl) ⟨rfl, rfl⟩ (fun u1 hw => ?_)
  refine g_ifb_eq (tgt := 25) K dX9_setMachine_6 (by decide) (fun hc => ?_) (fun hc => ?_)
  · replace hw := hw.2 hc
    refine g_iconst (v := 1) K dX9_setMachine_25 rfl ?_
    refine g_put (ty := .int) (ws' := [((A 0), .inr (10, [.ref (A 1), .ref (A 2), .ref (A 3), .ref (A 4), .int mhasKept, .ref (A 5), .int mpasts, .ref (A 6), .int mreports, .int 1, .ref (A 7), .ref (A 8), .ref (A 9), .int mordering, .int mdetail, .ref (A 10), .int mlength, .int mspot, .int mnumber, .ref (A 11), .int mtolds, .ref (A 12)])), ((A 1), .inl (cy 0, 672, .inl mg)), ((A 2), .inl (cy 0, 672, .inl mkept)), ((A 3), .inl (cy 0, 672, .inl mspare)), ((A 4), .inl (cy 0, 672, .inl mtrial)), ((A 5), .inl (cy 0, 5376, .inl mpast)), ((A 6), .inl (cy 0, 6, .inl mreport)), ((A 7), .inl (cy 0, 5, .inl mpart)), ((A 8), .inl (cy 0, 5, .inl mcome)), ((A 9), .inl (cy 0, 60, .inl morder)), ((A 10), .inl (cy 0, 80, .inl mtext)), ((A 11), .inl (cy 0, 200, .inl mtold)), ((A 12), .inl (cy 0, 672, .inl mahead))]) K (C := RX9) (T := TX9) (N := 22) 0 9 in_X9_setMachine_X9 tyX9 tyX9_ok nmX9 (by decide +kernel) rfl rfl (by decide) rfl (by decide +kernel) rfl rfl (Nat.le_of_ble_eq_true rfl) rfl dX9_setMachine_26 ?_
    refine g_aload_n K 0 dX9_setMachine_29 rfl ?_
    refine g_get K (C := RX9) (T := TX9) (N := 22) 0 9 in_X9_setMachine_X9 (by decide +kernel) rfl rfl (by decide) rfl dX9_setMachine_30 ?_
    refine g_if_le (tgt := 38) K dX9_setMachine_33 (by decide) (fun hc => absurd hc (by decide)) (fun _ => ?_)
    refine g_iconst (v := 0) K dX9_setMachine_36 rfl ?_
    exact g_zret K E Er (0, mpasts, 1, mg, mpast) hw rfl rfl rfl (Nat.le_refl _) (Nat.le_refl _) dX9_setMachine_37
  · replace hw := hw.1 hc
    refine g_iload_n K 2 dX9_setMachine_9 rfl ?_
    refine g_iload_n K 3 dX9_setMachine_10 rfl ?_
    refine g_callSr (st' := fun u2 => [.int (bI u2), .ref (A 0)]) K hR [.int p1, .int p2] [.ref (A 0)] (c_X9_mayBe X.2.1 (gxD X) cy sd p1 p2 hw) gX9_setMachine_X9_mayBe rfl yok_X9_mayBe rfl (by decide) rfl (Nat.le_of_ble_eq_true rfl) dX9_setMachine_11 [] rfl (by decide) (fun _ => rfl) ⟨rfl, rfl⟩ (fun u2 hw => ?_)
    refine g_ifb_eq (tgt := 21) K dX9_setMachine_14 (by decide) (fun hc => ?_) (fun hc => ?_)
    · replace hw := hw.2 hc
      refine g_iconst (v := 2) K dX9_setMachine_21 rfl ?_
      refine g_goto (tgt := 26) K dX9_setMachine_22 (by decide) ?_
      refine g_put (ty := .int) (ws' := [((A 0), .inr (10, [.ref (A 1), .ref (A 2), .ref (A 3), .ref (A 4), .int mhasKept, .ref (A 5), .int mpasts, .ref (A 6), .int mreports, .int 2, .ref (A 7), .ref (A 8), .ref (A 9), .int mordering, .int mdetail, .ref (A 10), .int mlength, .int mspot, .int mnumber, .ref (A 11), .int mtolds, .ref (A 12)])), ((A 1), .inl (cy 0, 672, .inl mg)), ((A 2), .inl (cy 0, 672, .inl mkept)), ((A 3), .inl (cy 0, 672, .inl mspare)), ((A 4), .inl (cy 0, 672, .inl mtrial)), ((A 5), .inl (cy 0, 5376, .inl mpast)), ((A 6), .inl (cy 0, 6, .inl mreport)), ((A 7), .inl (cy 0, 5, .inl mpart)), ((A 8), .inl (cy 0, 5, .inl mcome)), ((A 9), .inl (cy 0, 60, .inl morder)), ((A 10), .inl (cy 0, 80, .inl mtext)), ((A 11), .inl (cy 0, 200, .inl mtold)), ((A 12), .inl (cy 0, 672, .inl mahead))]) K (C := RX9) (T := TX9) (N := 22) 0 9 in_X9_setMachine_X9 tyX9 tyX9_ok nmX9 (by decide +kernel) rfl rfl (by decide) rfl (by decide +kernel) rfl rfl (Nat.le_of_ble_eq_true rfl) rfl dX9_setMachine_26 ?_
      refine g_aload_n K 0 dX9_setMachine_29 rfl ?_
      refine g_get K (C := RX9) (T := TX9) (N := 22) 0 9 in_X9_setMachine_X9 (by decide +kernel) rfl rfl (by decide) rfl dX9_setMachine_30 ?_
      refine g_if_le (tgt := 38) K dX9_setMachine_33 (by decide) (fun hc => absurd hc (by decide)) (fun _ => ?_)
      refine g_iconst (v := 0) K dX9_setMachine_36 rfl ?_
      exact g_zret K E Er (0, mpasts, 2, mg, mpast) hw rfl rfl rfl (Nat.le_refl _) (Nat.le_refl _) dX9_setMachine_37
    · replace hw := hw.1 hc
      refine g_iconst (v := 0) K dX9_setMachine_17 rfl ?_
      refine g_goto (tgt := 26) K dX9_setMachine_18 (by decide) ?_
      refine g_put (ty := .int) (ws' := [((A 0), .inr (10, [.ref (A 1), .ref (A 2), .ref (A 3), .ref (A 4), .int mhasKept, .ref (A 5), .int mpasts, .ref (A 6), .int mreports, .int 0, .ref (A 7), .ref (A 8), .ref (A 9), .int mordering, .int mdetail, .ref (A 10), .int mlength, .int mspot, .int mnumber, .ref (A 11), .int mtolds, .ref (A 12)])), ((A 1), .inl (cy 0, 672, .inl mg)), ((A 2), .inl (cy 0, 672, .inl mkept)), ((A 3), .inl (cy 0, 672, .inl mspare)), ((A 4), .inl (cy 0, 672, .inl mtrial)), ((A 5), .inl (cy 0, 5376, .inl mpast)), ((A 6), .inl (cy 0, 6, .inl mreport)), ((A 7), .inl (cy 0, 5, .inl mpart)), ((A 8), .inl (cy 0, 5, .inl mcome)), ((A 9), .inl (cy 0, 60, .inl morder)), ((A 10), .inl (cy 0, 80, .inl mtext)), ((A 11), .inl (cy 0, 200, .inl mtold)), ((A 12), .inl (cy 0, 672, .inl mahead))]) K (C := RX9) (T := TX9) (N := 22) 0 9 in_X9_setMachine_X9 tyX9 tyX9_ok nmX9 (by decide +kernel) rfl rfl (by decide) rfl (by decide +kernel) rfl rfl (Nat.le_of_ble_eq_true rfl) rfl dX9_setMachine_26 ?_
      refine g_aload_n K 0 dX9_setMachine_29 rfl ?_
      refine g_get K (C := RX9) (T := TX9) (N := 22) 0 9 in_X9_setMachine_X9 (by decide +kernel) rfl rfl (by decide) rfl dX9_setMachine_30 ?_
      refine g_if_le (tgt := 38) K dX9_setMachine_33 (by decide) (fun _ => ?_) (fun hc => absurd (by decide) hc)
      refine g_aload_n K 0 dX9_setMachine_38 rfl ?_
      refine g_aload_n K 0 dX9_setMachine_39 rfl ?_
      refine g_get K (C := RX9) (T := TX9) (N := 22) 0 0 in_X9_setMachine_X9 (by decide +kernel) rfl rfl (by decide) rfl dX9_setMachine_40 ?_
      refine g_callV (st' := fun u3 => []) (ws' := fun u3 => [((A 0), .inr (10, [.ref (A 1), .ref (A 2), .ref (A 3), .ref (A 4), .int mhasKept, .ref (A 5), .int u3.1, .ref (A 6), .int mreports, .int 0, .ref (A 7), .ref (A 8), .ref (A 9), .int mordering, .int mdetail, .ref (A 10), .int mlength, .int mspot, .int mnumber, .ref (A 11), .int mtolds, .ref (A 12)])), ((A 1), .inl (cy 0, 672, .inl mg)), ((A 2), .inl (cy 0, 672, .inl mkept)), ((A 3), .inl (cy 0, 672, .inl mspare)), ((A 4), .inl (cy 0, 672, .inl mtrial)), ((A 5), .inl (cy 0, 5376, .inl u3.2)), ((A 6), .inl (cy 0, 6, .inl mreport)), ((A 7), .inl (cy 0, 5, .inl mpart)), ((A 8), .inl (cy 0, 5, .inl mcome)), ((A 9), .inl (cy 0, 60, .inl morder)), ((A 10), .inl (cy 0, 80, .inl mtext)), ((A 11), .inl (cy 0, 200, .inl mtold)), ((A 12), .inl (cy 0, 672, .inl mahead))]) K hR [.ref (A 1)] [] 0 rfl rfl (c_X9_changes_o1 X.2.1 (gxD X) cy sd A mg mkept mspare mtrial mpast mreport mpart mcome morder mtext mtold mahead mhasKept mpasts mreports 0 mordering mdetail mlength mspot mnumber mtolds hw) gX9_setMachine_X9_changes rfl yok_X9_changes rfl rfl (by decide) rfl (Nat.le_of_ble_eq_true rfl) dX9_setMachine_43 [0, 1, 2, 3, 4, 5, 6, 7, 8, 9, 10, 11, 12] rfl (by decide) (fun _ => rfl) (fun _ => rfl) (fun _ => rfl) ⟨rfl, rfl⟩ (fun u3 hw => ?_)
      refine g_aload_n K 0 dX9_setMachine_46 rfl ?_
      refine g_get K (C := RX9) (T := TX9) (N := 22) 0 0 in_X9_setMachine_X9 (by decide +kernel) rfl rfl (by decide) rfl dX9_setMachine_47 ?_
      refine g_iload_n K 1 dX9_setMachine_50 rfl ?_
      refine g_iload_n K 2 dX9_setMachine_51 rfl ?_
      refine g_callSr (st' := fun u4 => [.int u4, .ref (A 1)]) K hR [.int p0, .int p1] [.ref (A 1)] (c_X9_machineAt X.2.1 (gxD X) cy sd p0 p1 hw) gX9_setMachine_X9_machineAt rfl yok_X9_machineAt rfl (by decide) rfl (Nat.le_of_ble_eq_true rfl) dX9_setMachine_52 [] rfl (by decide) (fun _ => rfl) ⟨rfl, rfl⟩ (fun u4 hw => ?_)
      refine g_iald K 1 0 rfl rfl hw.1 dX9_setMachine_55 ?_
      replace hw := hw.2
      refine g_topi (fun x5 ex5 => ?_)
      replace hw := hw x5 ex5
      refine g_istore (lv' := [(4, .int x5), (0, .ref (A 0)), (1, .int p0), (2, .int p1), (3, .int p2)]) K dX9_setMachine_56 (by rw [En]; decide) rfl ?_
      refine g_aload_n K 1 dX9_setMachine_58 rfl ?_
      refine g_get K (C := RX9) (T := TX9) (N := 22) 0 0 in_X9_setMachine_X9 (by decide +kernel) rfl rfl (by decide) rfl dX9_setMachine_59 ?_
      refine g_iload_n K 2 dX9_setMachine_62 rfl ?_
      refine g_iload_n K 3 dX9_setMachine_63 rfl ?_
      refine g_callSr (st' := fun u6 => [.int u6, .ref (A 1)]) K hR [.int p0, .int p1] [.ref (A 1)] (c_X9_machineAt X.2.1 (gxD X) cy sd p0 p1 hw) gX9_setMachine_X9_machineAt rfl yok_X9_machineAt rfl (by decide) rfl (Nat.le_of_ble_eq_true rfl) dX9_setMachine_64 [] rfl (by decide) (fun _ => rfl) ⟨rfl, rfl⟩ (fun u6 hw => ?_)
      refine g_iload_n K 4 dX9_setMachine_67 rfl ?_
      refine g_iast (ws' := [((A 0), .inr (10, [.ref (A 1), .ref (A 2), .ref (A 3), .ref (A 4), .int mhasKept, .ref (A 5), .int u3.1, .ref (A 6), .int mreports, .int 0, .ref (A 7), .ref (A 8), .ref (A 9), .int mordering, .int mdetail, .ref (A 10), .int mlength, .int mspot, .int mnumber, .ref (A 11), .int mtolds, .ref (A 12)])), ((A 1), .inl (cy 0, 672, .inl (upd mg (u6).toNatClampNeg p2))), ((A 2), .inl (cy 0, 672, .inl mkept)), ((A 3), .inl (cy 0, 672, .inl mspare)), ((A 4), .inl (cy 0, 672, .inl mtrial)), ((A 5), .inl (cy 0, 5376, .inl u3.2)), ((A 6), .inl (cy 0, 6, .inl mreport)), ((A 7), .inl (cy 0, 5, .inl mpart)), ((A 8), .inl (cy 0, 5, .inl mcome)), ((A 9), .inl (cy 0, 60, .inl morder)), ((A 10), .inl (cy 0, 80, .inl mtext)), ((A 11), .inl (cy 0, 200, .inl mtold)), ((A 12), .inl (cy 0, 672, .inl mahead))]) K 1 0 rfl rfl hw.1 rfl dX9_setMachine_68 ?_
      replace hw := hw.2
      refine g_iload K 0 dX9_setMachine_69 rfl ?_
      exact g_zret K E Er (x5, u3.1, 0, upd mg (u6).toNatClampNeg p2, u3.2) hw rfl rfl rfl (Nat.le_refl _) (Nat.le_refl _) dX9_setMachine_71

def wp_X9_machine (mg : XRow) (p0 : Int32) (p1 : Int32) (post : (Int32 × Int32) → Prop) : Prop := wp_X9_isMachine mg p0 (fun u1 : Bool => (u1 = true → (wp_X9_in p1 0 6 (fun u2 : Bool => (u2 = true → ((p1 = 5 → (wp_X9_machineAt p0 5 (fun u5 : Int32 => wp_X9_sum mg u5 (fun u6 : Int32 => post (u6, 0))))) ∧ (¬ p1 = 5 → ((p1 = 6 → (wp_X9_machineAt p0 10 (fun u4 : Int32 => vp_in u4 672 ∧ (post (mg (u4).toNatClampNeg, 0))))) ∧ (¬ p1 = 6 → (wp_X9_machineAt p0 p1 (fun u3 : Int32 => vp_in u3 672 ∧ (post (mg (u3).toNatClampNeg, 0))))))))) ∧ (u2 = false → (post (0, 2)))))) ∧ (u1 = false → (post (0, 1))))
theorem in_X9_machine_X9 : ∀ w ∈ u_ws RX9 TX9 22, w ∈ wsX9_machine := by decide +kernel
set_option maxRecDepth 100000 in
set_option maxHeartbeats 4000000 in
theorem c_X9_machine (l : Launch) (D : va_G) (cy : Nat → ClassId) (sd : xSd) (A : Nat → Nat) (mg : XRow) (mkept : XRow) (mspare : XRow) (mtrial : XRow) (mpast : XRow) (mreport : XRow) (mpart : XRow) (mcome : XRow) (morder : XRow) (mtext : XRow) (mtold : XRow) (mahead : XRow) (mhasKept : Int32) (mpasts : Int32) (mreports : Int32) (mthrown : Int32) (mordering : Int32) (mdetail : Int32) (mlength : Int32) (mspot : Int32) (mnumber : Int32) (mtolds : Int32) (p0 : Int32) (p1 : Int32) {post : (Int32 × Int32) → Prop} (hw : wp_X9_machine mg p0 p1 post) : Ctr l D (xTys cy) sd yX9_machine wsX9_machine ({ frames := 2, cells := 0, slots := 0, locals := 43 } : Room) [.ref (A 0), .int p0, .int p1] (fun u : Int32 × Int32 => some (.int u.1)) [((A 0), .inr (10, [.ref (A 1), .ref (A 2), .ref (A 3), .ref (A 4), .int mhasKept, .ref (A 5), .int mpasts, .ref (A 6), .int mreports, .int mthrown, .ref (A 7), .ref (A 8), .ref (A 9), .int mordering, .int mdetail, .ref (A 10), .int mlength, .int mspot, .int mnumber, .ref (A 11), .int mtolds, .ref (A 12)])), ((A 1), .inl (cy 0, 672, .inl mg)), ((A 2), .inl (cy 0, 672, .inl mkept)), ((A 3), .inl (cy 0, 672, .inl mspare)), ((A 4), .inl (cy 0, 672, .inl mtrial)), ((A 5), .inl (cy 0, 5376, .inl mpast)), ((A 6), .inl (cy 0, 6, .inl mreport)), ((A 7), .inl (cy 0, 5, .inl mpart)), ((A 8), .inl (cy 0, 5, .inl mcome)), ((A 9), .inl (cy 0, 60, .inl morder)), ((A 10), .inl (cy 0, 80, .inl mtext)), ((A 11), .inl (cy 0, 200, .inl mtold)), ((A 12), .inl (cy 0, 672, .inl mahead))] (fun u => [((A 0), .inr (10, [.ref (A 1), .ref (A 2), .ref (A 3), .ref (A 4), .int mhasKept, .ref (A 5), .int mpasts, .ref (A 6), .int mreports, .int u.2, .ref (A 7), .ref (A 8), .ref (A 9), .int mordering, .int mdetail, .ref (A 10), .int mlength, .int mspot, .int mnumber, .ref (A 11), .int mtolds, .ref (A 12)])), ((A 1), .inl (cy 0, 672, .inl mg)), ((A 2), .inl (cy 0, 672, .inl mkept)), ((A 3), .inl (cy 0, 672, .inl mspare)), ((A 4), .inl (cy 0, 672, .inl mtrial)), ((A 5), .inl (cy 0, 5376, .inl mpast)), ((A 6), .inl (cy 0, 6, .inl mreport)), ((A 7), .inl (cy 0, 5, .inl mpart)), ((A 8), .inl (cy 0, 5, .inl mcome)), ((A 9), .inl (cy 0, 60, .inl morder)), ((A 10), .inl (cy 0, 80, .inl mtext)), ((A 11), .inl (cy 0, 200, .inl mtold)), ((A 12), .inl (cy 0, 672, .inl mahead))]) post := by
  refine Ctr.of (cc := cX9_machine) (maxL := 3) (ret := (some .int)) (lv0 := [(0, .ref (A 0)), (1, .int p0), (2, .int p1)]) (by decide) rfl (Nat.le_of_ble_eq_true rfl) rfl ?_
  intro X El hR Er Enm ED E En K
  have K : Cx X cX9_machine RX9 wsX9_machine (xTys cy) sd := K
  have E : X.2.2.2.2.2.2.2.2.2.2.1 = xMQ X (fun u : Int32 × Int32 => some (.int u.1)) post (fun u => [((A 0), .inr (10, [.ref (A 1), .ref (A 2), .ref (A 3), .ref (A 4), .int mhasKept, .ref (A 5), .int mpasts, .ref (A 6), .int mreports, .int u.2, .ref (A 7), .ref (A 8), .ref (A 9), .int mordering, .int mdetail, .ref (A 10), .int mlength, .int mspot, .int mnumber, .ref (A 11), .int mtolds, .ref (A 12)])), ((A 1), .inl (cy 0, 672, .inl mg)), ((A 2), .inl (cy 0, 672, .inl mkept)), ((A 3), .inl (cy 0, 672, .inl mspare)), ((A 4), .inl (cy 0, 672, .inl mtrial)), ((A 5), .inl (cy 0, 5376, .inl mpast)), ((A 6), .inl (cy 0, 6, .inl mreport)), ((A 7), .inl (cy 0, 5, .inl mpart)), ((A 8), .inl (cy 0, 5, .inl mcome)), ((A 9), .inl (cy 0, 60, .inl morder)), ((A 10), .inl (cy 0, 80, .inl mtext)), ((A 11), .inl (cy 0, 200, .inl mtold)), ((A 12), .inl (cy 0, 672, .inl mahead))]) 0 0 := E
  unfold wp_X9_machine at hw
  refine g_aload_n K 0 dX9_machine_0 rfl ?_
  refine g_aload_n K 0 dX9_machine_1 rfl ?_
  refine g_iload_n K 1 dX9_machine_2 rfl ?_
  refine g_callVr (st' := fun u1 => [.int (bI u1), .ref (A 0)]) K hR [.int p0] [.ref (A 0)] 0 rfl rfl (c_X9_isMachine X.2.1 (gxD X) cy sd A mg mkept mspare mtrial mpast mreport mpart mcome morder mtext mtold mahead mhasKept mpasts mreports mthrown mordering mdetail mlength mspot mnumber mtolds p0 hw) gX9_machine_X9_isMachine rfl yok_X9_isMachine rfl rfl (by decide) rfl (Nat.le_of_ble_eq_true rfl) dX9_machine_3 [0, 1, 2, 3, 4, 5, 6, 7, 8, 9, 10, 11, 12] rfl (by decide) (fun _ => rfl) ⟨rfl, rfl⟩ (fun u1 hw => ?_)
  refine g_ifb_eq (tgt := 27) K dX9_machine_6 (by decide) (fun hc => ?_) (fun hc => ?_)
  · replace hw := hw.2 hc
    refine g_iconst (v := 1) K dX9_machine_27 rfl ?_
    refine g_put (ty := .int) (ws' := [((A 0), .inr (10, [.ref (A 1), .ref (A 2), .ref (A 3), .ref (A 4), .int mhasKept, .ref (A 5), .int mpasts, .ref (A 6), .int mreports, .int 1, .ref (A 7), .ref (A 8), .ref (A 9), .int mordering, .int mdetail, .ref (A 10), .int mlength, .int mspot, .int mnumber, .ref (A 11), .int mtolds, .ref (A 12)])), ((A 1), .inl (cy 0, 672, .inl mg)), ((A 2), .inl (cy 0, 672, .inl mkept)), ((A 3), .inl (cy 0, 672, .inl mspare)), ((A 4), .inl (cy 0, 672, .inl mtrial)), ((A 5), .inl (cy 0, 5376, .inl mpast)), ((A 6), .inl (cy 0, 6, .inl mreport)), ((A 7), .inl (cy 0, 5, .inl mpart)), ((A 8), .inl (cy 0, 5, .inl mcome)), ((A 9), .inl (cy 0, 60, .inl morder)), ((A 10), .inl (cy 0, 80, .inl mtext)), ((A 11), .inl (cy 0, 200, .inl mtold)), ((A 12), .inl (cy 0, 672, .inl mahead))]) K (C := RX9) (T := TX9) (N := 22) 0 9 in_X9_machine_X9 tyX9 tyX9_ok nmX9 (by decide +kernel) rfl rfl (by decide) rfl (by decide +kernel) rfl rfl (Nat.le_of_ble_eq_true rfl) rfl dX9_machine_28 ?_
    refine g_aload_n K 0 dX9_machine_31 rfl ?_
    refine g_get K (C := RX9) (T := TX9) (N := 22) 0 9 in_X9_machine_X9 (by decide +kernel) rfl rfl (by decide) rfl dX9_machine_32 ?_
    refine g_if_le (tgt := 40) K dX9_machine_35 (by decide) (fun hc => absurd hc (by decide)) (fun _ => ?_)
    refine g_iconst (v := 0) K dX9_machine_38 rfl ?_
    exact g_zret K E Er (0, 1) hw rfl rfl rfl (Nat.le_refl _) (Nat.le_refl _) dX9_machine_39
  · replace hw := hw.1 hc
    refine g_iload_n K 2 dX9_machine_9 rfl ?_
    refine g_iconst (v := 0) K dX9_machine_10 rfl ?_
    refine g_bipush (v := 6) K dX9_machine_11 rfl ?_
    refine g_callSr (st' := fun u2 => [.int (bI u2), .ref (A 0)]) K hR [.int p1, .int 0, .int 6] [.ref (A 0)] (c_X9_in X.2.1 (gxD X) cy sd p1 0 6 hw) gX9_machine_X9_in rfl yok_X9_in rfl (by decide) rfl (Nat.le_of_ble_eq_true rfl) dX9_machine_13 [] rfl (by decide) (fun _ => rfl) ⟨rfl, rfl⟩ (fun u2 hw => ?_)
    refine g_ifb_eq (tgt := 23) K dX9_machine_16 (by decide) (fun hc => ?_) (fun hc => ?_)
    · replace hw := hw.2 hc
      refine g_iconst (v := 2) K dX9_machine_23 rfl ?_
      refine g_goto (tgt := 28) K dX9_machine_24 (by decide) ?_
      refine g_put (ty := .int) (ws' := [((A 0), .inr (10, [.ref (A 1), .ref (A 2), .ref (A 3), .ref (A 4), .int mhasKept, .ref (A 5), .int mpasts, .ref (A 6), .int mreports, .int 2, .ref (A 7), .ref (A 8), .ref (A 9), .int mordering, .int mdetail, .ref (A 10), .int mlength, .int mspot, .int mnumber, .ref (A 11), .int mtolds, .ref (A 12)])), ((A 1), .inl (cy 0, 672, .inl mg)), ((A 2), .inl (cy 0, 672, .inl mkept)), ((A 3), .inl (cy 0, 672, .inl mspare)), ((A 4), .inl (cy 0, 672, .inl mtrial)), ((A 5), .inl (cy 0, 5376, .inl mpast)), ((A 6), .inl (cy 0, 6, .inl mreport)), ((A 7), .inl (cy 0, 5, .inl mpart)), ((A 8), .inl (cy 0, 5, .inl mcome)), ((A 9), .inl (cy 0, 60, .inl morder)), ((A 10), .inl (cy 0, 80, .inl mtext)), ((A 11), .inl (cy 0, 200, .inl mtold)), ((A 12), .inl (cy 0, 672, .inl mahead))]) K (C := RX9) (T := TX9) (N := 22) 0 9 in_X9_machine_X9 tyX9 tyX9_ok nmX9 (by decide +kernel) rfl rfl (by decide) rfl (by decide +kernel) rfl rfl (Nat.le_of_ble_eq_true rfl) rfl dX9_machine_28 ?_
      refine g_aload_n K 0 dX9_machine_31 rfl ?_
      refine g_get K (C := RX9) (T := TX9) (N := 22) 0 9 in_X9_machine_X9 (by decide +kernel) rfl rfl (by decide) rfl dX9_machine_32 ?_
      refine g_if_le (tgt := 40) K dX9_machine_35 (by decide) (fun hc => absurd hc (by decide)) (fun _ => ?_)
      refine g_iconst (v := 0) K dX9_machine_38 rfl ?_
      exact g_zret K E Er (0, 2) hw rfl rfl rfl (Nat.le_refl _) (Nat.le_refl _) dX9_machine_39
    · replace hw := hw.1 hc
      refine g_iconst (v := 0) K dX9_machine_19 rfl ?_
      refine g_goto (tgt := 28) K dX9_machine_20 (by decide) ?_
      refine g_put (ty := .int) (ws' := [((A 0), .inr (10, [.ref (A 1), .ref (A 2), .ref (A 3), .ref (A 4), .int mhasKept, .ref (A 5), .int mpasts, .ref (A 6), .int mreports, .int 0, .ref (A 7), .ref (A 8), .ref (A 9), .int mordering, .int mdetail, .ref (A 10), .int mlength, .int mspot, .int mnumber, .ref (A 11), .int mtolds, .ref (A 12)])), ((A 1), .inl (cy 0, 672, .inl mg)), ((A 2), .inl (cy 0, 672, .inl mkept)), ((A 3), .inl (cy 0, 672, .inl mspare)), ((A 4), .inl (cy 0, 672, .inl mtrial)), ((A 5), .inl (cy 0, 5376, .inl mpast)), ((A 6), .inl (cy 0, 6, .inl mreport)), ((A 7), .inl (cy 0, 5, .inl mpart)), ((A 8), .inl (cy 0, 5, .inl mcome)), ((A 9), .inl (cy 0, 60, .inl morder)), ((A 10), .inl (cy 0, 80, .inl mtext)), ((A 11), .inl (cy 0, 200, .inl mtold)), ((A 12), .inl (cy 0, 672, .inl mahead))]) K (C := RX9) (T := TX9) (N := 22) 0 9 in_X9_machine_X9 tyX9 tyX9_ok nmX9 (by decide +kernel) rfl rfl (by decide) rfl (by decide +kernel) rfl rfl (Nat.le_of_ble_eq_true rfl) rfl dX9_machine_28 ?_
      refine g_aload_n K 0 dX9_machine_31 rfl ?_
      refine g_get K (C := RX9) (T := TX9) (N := 22) 0 9 in_X9_machine_X9 (by decide +kernel) rfl rfl (by decide) rfl dX9_machine_32 ?_
      refine g_if_le (tgt := 40) K dX9_machine_35 (by decide) (fun _ => ?_) (fun hc => absurd (by decide) hc)
      refine g_iload_n K 2 dX9_machine_40 rfl ?_
      refine g_iconst (v := 5) K dX9_machine_41 rfl ?_
      refine g_icmp_ne (tgt := 57) K dX9_machine_42 (by decide) (fun hc => ?_) (fun hc => ?_)
      · replace hw := hw.2 hc
        refine g_aload_n K 0 dX9_machine_57 rfl ?_
        refine g_get K (C := RX9) (T := TX9) (N := 22) 0 0 in_X9_machine_X9 (by decide +kernel) rfl rfl (by decide) rfl dX9_machine_58 ?_
        refine g_iload_n K 1 dX9_machine_61 rfl ?_
        refine g_iload_n K 2 dX9_machine_62 rfl ?_
        refine g_bipush (v := 6) K dX9_machine_63 rfl ?_
        refine g_icmp_ne (tgt := 73) K dX9_machine_65 (by decide) (fun hc => ?_) (fun hc => ?_)
        · replace hw := hw.2 hc
          refine g_iload_n K 2 dX9_machine_73 rfl ?_
          refine g_callSr (st' := fun u3 => [.int u3, .ref (A 1)]) K hR [.int p0, .int p1] [.ref (A 1)] (c_X9_machineAt X.2.1 (gxD X) cy sd p0 p1 hw) gX9_machine_X9_machineAt rfl yok_X9_machineAt rfl (by decide) rfl (Nat.le_of_ble_eq_true rfl) dX9_machine_74 [] rfl (by decide) (fun _ => rfl) ⟨rfl, rfl⟩ (fun u3 hw => ?_)
          refine g_iald K 1 0 rfl rfl hw.1 dX9_machine_77 ?_
          replace hw := hw.2
          exact g_zret K E Er (mg (u3).toNatClampNeg, 0) hw rfl rfl rfl (Nat.le_refl _) (Nat.le_refl _) dX9_machine_78
        · replace hw := hw.1 hc
          refine g_bipush (v := 10) K dX9_machine_68 rfl ?_
          refine g_goto (tgt := 74) K dX9_machine_70 (by decide) ?_
          refine g_callSr (st' := fun u4 => [.int u4, .ref (A 1)]) K hR [.int p0, .int 10] [.ref (A 1)] (c_X9_machineAt X.2.1 (gxD X) cy sd p0 10 hw) gX9_machine_X9_machineAt rfl yok_X9_machineAt rfl (by decide) rfl (Nat.le_of_ble_eq_true rfl) dX9_machine_74 [] rfl (by decide) (fun _ => rfl) ⟨rfl, rfl⟩ (fun u4 hw => ?_)
          refine g_iald K 1 0 rfl rfl hw.1 dX9_machine_77 ?_
          replace hw := hw.2
          exact g_zret K E Er (mg (u4).toNatClampNeg, 0) hw rfl rfl rfl (Nat.le_refl _) (Nat.le_refl _) dX9_machine_78
      · replace hw := hw.1 hc
        refine g_aload_n K 0 dX9_machine_45 rfl ?_
        refine g_iload_n K 1 dX9_machine_46 rfl ?_
        refine g_iconst (v := 5) K dX9_machine_47 rfl ?_
        refine g_callSr (st' := fun u5 => [.int u5, .ref (A 0)]) K hR [.int p0, .int 5] [.ref (A 0)] (c_X9_machineAt X.2.1 (gxD X) cy sd p0 5 hw) gX9_machine_X9_machineAt rfl yok_X9_machineAt rfl (by decide) rfl (Nat.le_of_ble_eq_true rfl) dX9_machine_48 [] rfl (by decide) (fun _ => rfl) ⟨rfl, rfl⟩ (fun u5 hw => ?_)
        refine g_callVr (st' := fun u6 => [.int u6]) K hR [.int u5] [] 0 rfl rfl (c_X9_sum X.2.1 (gxD X) cy sd A mg mkept mspare mtrial mpast mreport mpart mcome morder mtext mtold mahead mhasKept mpasts mreports 0 mordering mdetail mlength mspot mnumber mtolds u5 hw) gX9_machine_X9_sum rfl yok_X9_sum rfl rfl (by decide) rfl (Nat.le_of_ble_eq_true rfl) dX9_machine_51 [0, 1, 2, 3, 4, 5, 6, 7, 8, 9, 10, 11, 12] rfl (by decide) (fun _ => rfl) ⟨rfl, rfl⟩ (fun u6 hw => ?_)
        refine g_goto (tgt := 78) K dX9_machine_54 (by decide) ?_
        exact g_zret K E Er (u6, 0) hw rfl rfl rfl (Nat.le_refl _) (Nat.le_refl _) dX9_machine_78

def wp_X9_excess (mg : XRow) (p0 : Int32) (p1 : Int32) (post : Int32 → Prop) : Prop := wp_X9_machineAt p0 3 (fun u1 : Int32 => vp_in u1 672 ∧ ((p1 ≤ (mg (u1).toNatClampNeg) → (post 0)) ∧ (¬ p1 ≤ (mg (u1).toNatClampNeg) → (wp_X9_machineAt p0 3 (fun u2 : Int32 => vp_in u2 672 ∧ (post ((p1 - (mg (u2).toNatClampNeg)) / 10)))))))
theorem in_X9_excess_X9 : ∀ w ∈ u_ws RX9 TX9 22, w ∈ wsX9_excess := by decide +kernel
set_option maxRecDepth 100000 in
set_option maxHeartbeats 4000000 in
theorem c_X9_excess (l : Launch) (D : va_G) (cy : Nat → ClassId) (sd : xSd) (A : Nat → Nat) (mg : XRow) (mkept : XRow) (mspare : XRow) (mtrial : XRow) (mpast : XRow) (mreport : XRow) (mpart : XRow) (mcome : XRow) (morder : XRow) (mtext : XRow) (mtold : XRow) (mahead : XRow) (mhasKept : Int32) (mpasts : Int32) (mreports : Int32) (mthrown : Int32) (mordering : Int32) (mdetail : Int32) (mlength : Int32) (mspot : Int32) (mnumber : Int32) (mtolds : Int32) (p0 : Int32) (p1 : Int32) {post : Int32 → Prop} (hw : wp_X9_excess mg p0 p1 post) : Ctr l D (xTys cy) sd yX9_excess wsX9_excess ({ frames := 1, cells := 0, slots := 0, locals := 21 } : Room) [.ref (A 0), .int p0, .int p1] (fun u : Int32 => some (.int u)) [((A 0), .inr (10, [.ref (A 1), .ref (A 2), .ref (A 3), .ref (A 4), .int mhasKept, .ref (A 5), .int mpasts, .ref (A 6), .int mreports, .int mthrown, .ref (A 7), .ref (A 8), .ref (A 9), .int mordering, .int mdetail, .ref (A 10), .int mlength, .int mspot, .int mnumber, .ref (A 11), .int mtolds, .ref (A 12)])), ((A 1), .inl (cy 0, 672, .inl mg)), ((A 2), .inl (cy 0, 672, .inl mkept)), ((A 3), .inl (cy 0, 672, .inl mspare)), ((A 4), .inl (cy 0, 672, .inl mtrial)), ((A 5), .inl (cy 0, 5376, .inl mpast)), ((A 6), .inl (cy 0, 6, .inl mreport)), ((A 7), .inl (cy 0, 5, .inl mpart)), ((A 8), .inl (cy 0, 5, .inl mcome)), ((A 9), .inl (cy 0, 60, .inl morder)), ((A 10), .inl (cy 0, 80, .inl mtext)), ((A 11), .inl (cy 0, 200, .inl mtold)), ((A 12), .inl (cy 0, 672, .inl mahead))] (fun _ => [((A 0), .inr (10, [.ref (A 1), .ref (A 2), .ref (A 3), .ref (A 4), .int mhasKept, .ref (A 5), .int mpasts, .ref (A 6), .int mreports, .int mthrown, .ref (A 7), .ref (A 8), .ref (A 9), .int mordering, .int mdetail, .ref (A 10), .int mlength, .int mspot, .int mnumber, .ref (A 11), .int mtolds, .ref (A 12)])), ((A 1), .inl (cy 0, 672, .inl mg)), ((A 2), .inl (cy 0, 672, .inl mkept)), ((A 3), .inl (cy 0, 672, .inl mspare)), ((A 4), .inl (cy 0, 672, .inl mtrial)), ((A 5), .inl (cy 0, 5376, .inl mpast)), ((A 6), .inl (cy 0, 6, .inl mreport)), ((A 7), .inl (cy 0, 5, .inl mpart)), ((A 8), .inl (cy 0, 5, .inl mcome)), ((A 9), .inl (cy 0, 60, .inl morder)), ((A 10), .inl (cy 0, 80, .inl mtext)), ((A 11), .inl (cy 0, 200, .inl mtold)), ((A 12), .inl (cy 0, 672, .inl mahead))]) post := by
  refine Ctr.of (cc := cX9_excess) (maxL := 3) (ret := (some .int)) (lv0 := [(0, .ref (A 0)), (1, .int p0), (2, .int p1)]) (by decide) rfl (Nat.le_of_ble_eq_true rfl) rfl ?_
  intro X El hR Er Enm ED E En K
  have K : Cx X cX9_excess RX9 wsX9_excess (xTys cy) sd := K
  have E : X.2.2.2.2.2.2.2.2.2.2.1 = xMQ X (fun u : Int32 => some (.int u)) post (fun _ => [((A 0), .inr (10, [.ref (A 1), .ref (A 2), .ref (A 3), .ref (A 4), .int mhasKept, .ref (A 5), .int mpasts, .ref (A 6), .int mreports, .int mthrown, .ref (A 7), .ref (A 8), .ref (A 9), .int mordering, .int mdetail, .ref (A 10), .int mlength, .int mspot, .int mnumber, .ref (A 11), .int mtolds, .ref (A 12)])), ((A 1), .inl (cy 0, 672, .inl mg)), ((A 2), .inl (cy 0, 672, .inl mkept)), ((A 3), .inl (cy 0, 672, .inl mspare)), ((A 4), .inl (cy 0, 672, .inl mtrial)), ((A 5), .inl (cy 0, 5376, .inl mpast)), ((A 6), .inl (cy 0, 6, .inl mreport)), ((A 7), .inl (cy 0, 5, .inl mpart)), ((A 8), .inl (cy 0, 5, .inl mcome)), ((A 9), .inl (cy 0, 60, .inl morder)), ((A 10), .inl (cy 0, 80, .inl mtext)), ((A 11), .inl (cy 0, 200, .inl mtold)), ((A 12), .inl (cy 0, 672, .inl mahead))]) 0 0 := E
  unfold wp_X9_excess at hw
  refine g_iload_n K 2 dX9_excess_0 rfl ?_
  refine g_aload_n K 0 dX9_excess_1 rfl ?_
  refine g_get K (C := RX9) (T := TX9) (N := 22) 0 0 in_X9_excess_X9 (by decide +kernel) rfl rfl (by decide) rfl dX9_excess_2 ?_
  refine g_iload_n K 1 dX9_excess_5 rfl ?_
  refine g_iconst (v := 3) K dX9_excess_6 rfl ?_
  refine g_callSr (st' := fun u1 => [.int u1, .ref (A 1), .int p1]) K hR [.int p0, .int 3] [.ref (A 1), .int p1] (c_X9_machineAt X.2.1 (gxD X) cy sd p0 3 hw) gX9_excess_X9_machineAt rfl yok_X9_machineAt rfl (by decide) rfl (Nat.le_of_ble_eq_true rfl) dX9_excess_7 [] rfl (by decide) (fun _ => rfl) ⟨rfl, rfl⟩ (fun u1 hw => ?_)
  refine g_iald K 1 0 rfl rfl hw.1 dX9_excess_10 ?_
  replace hw := hw.2
  refine g_icmp_le (tgt := 32) K dX9_excess_11 (by decide) (fun hc => ?_) (fun hc => ?_)
  · replace hw := hw.1 hc
    refine g_iconst (v := 0) K dX9_excess_32 rfl ?_
    exact g_zret K E Er 0 hw rfl rfl rfl (Nat.le_refl _) (Nat.le_refl _) dX9_excess_33
  · replace hw := hw.2 hc
    refine g_iload_n K 2 dX9_excess_14 rfl ?_
    refine g_aload_n K 0 dX9_excess_15 rfl ?_
    refine g_get K (C := RX9) (T := TX9) (N := 22) 0 0 in_X9_excess_X9 (by decide +kernel) rfl rfl (by decide) rfl dX9_excess_16 ?_
    refine g_iload_n K 1 dX9_excess_19 rfl ?_
    refine g_iconst (v := 3) K dX9_excess_20 rfl ?_
    refine g_callSr (st' := fun u2 => [.int u2, .ref (A 1), .int p1]) K hR [.int p0, .int 3] [.ref (A 1), .int p1] (c_X9_machineAt X.2.1 (gxD X) cy sd p0 3 hw) gX9_excess_X9_machineAt rfl yok_X9_machineAt rfl (by decide) rfl (Nat.le_of_ble_eq_true rfl) dX9_excess_21 [] rfl (by decide) (fun _ => rfl) ⟨rfl, rfl⟩ (fun u2 hw => ?_)
    refine g_iald K 1 0 rfl rfl hw.1 dX9_excess_24 ?_
    replace hw := hw.2
    refine g_isub K dX9_excess_25 ?_
    refine g_bipush (v := 10) K dX9_excess_26 rfl ?_
    refine g_idiv K dX9_excess_28 (by decide) ?_
    refine g_goto (tgt := 33) K dX9_excess_29 (by decide) ?_
    exact g_zret K E Er ((p1 - (mg (u2).toNatClampNeg)) / 10) hw rfl rfl rfl (Nat.le_refl _) (Nat.le_refl _) dX9_excess_33

def wp_X9_catches (mg : XRow) (p0 : Int32) (p1 : Int32) (post : Int32 → Prop) : Prop := wp_X9_machineAt p0 1 (fun u1 : Int32 => vp_in u1 672 ∧ (wp_X9_machineAt p0 4 (fun u2 : Int32 => vp_in u2 672 ∧ (wp_X9_excess mg p0 p1 (fun u3 : Int32 => ∀ x4 : Int32, x4 = (mg (u1).toNatClampNeg) - ((mg (u2).toNatClampNeg) * u3) → ((10 ≤ x4 → (post x4)) ∧ (¬ 10 ≤ x4 → (post 10))))))))
theorem in_X9_catches_X9 : ∀ w ∈ u_ws RX9 TX9 22, w ∈ wsX9_catches := by decide +kernel
set_option maxRecDepth 100000 in
set_option maxHeartbeats 4000000 in
theorem c_X9_catches (l : Launch) (D : va_G) (cy : Nat → ClassId) (sd : xSd) (A : Nat → Nat) (mg : XRow) (mkept : XRow) (mspare : XRow) (mtrial : XRow) (mpast : XRow) (mreport : XRow) (mpart : XRow) (mcome : XRow) (morder : XRow) (mtext : XRow) (mtold : XRow) (mahead : XRow) (mhasKept : Int32) (mpasts : Int32) (mreports : Int32) (mthrown : Int32) (mordering : Int32) (mdetail : Int32) (mlength : Int32) (mspot : Int32) (mnumber : Int32) (mtolds : Int32) (p0 : Int32) (p1 : Int32) {post : Int32 → Prop} (hw : wp_X9_catches mg p0 p1 post) : Ctr l D (xTys cy) sd yX9_catches wsX9_catches ({ frames := 2, cells := 0, slots := 0, locals := 43 } : Room) [.ref (A 0), .int p0, .int p1] (fun u : Int32 => some (.int u)) [((A 0), .inr (10, [.ref (A 1), .ref (A 2), .ref (A 3), .ref (A 4), .int mhasKept, .ref (A 5), .int mpasts, .ref (A 6), .int mreports, .int mthrown, .ref (A 7), .ref (A 8), .ref (A 9), .int mordering, .int mdetail, .ref (A 10), .int mlength, .int mspot, .int mnumber, .ref (A 11), .int mtolds, .ref (A 12)])), ((A 1), .inl (cy 0, 672, .inl mg)), ((A 2), .inl (cy 0, 672, .inl mkept)), ((A 3), .inl (cy 0, 672, .inl mspare)), ((A 4), .inl (cy 0, 672, .inl mtrial)), ((A 5), .inl (cy 0, 5376, .inl mpast)), ((A 6), .inl (cy 0, 6, .inl mreport)), ((A 7), .inl (cy 0, 5, .inl mpart)), ((A 8), .inl (cy 0, 5, .inl mcome)), ((A 9), .inl (cy 0, 60, .inl morder)), ((A 10), .inl (cy 0, 80, .inl mtext)), ((A 11), .inl (cy 0, 200, .inl mtold)), ((A 12), .inl (cy 0, 672, .inl mahead))] (fun _ => [((A 0), .inr (10, [.ref (A 1), .ref (A 2), .ref (A 3), .ref (A 4), .int mhasKept, .ref (A 5), .int mpasts, .ref (A 6), .int mreports, .int mthrown, .ref (A 7), .ref (A 8), .ref (A 9), .int mordering, .int mdetail, .ref (A 10), .int mlength, .int mspot, .int mnumber, .ref (A 11), .int mtolds, .ref (A 12)])), ((A 1), .inl (cy 0, 672, .inl mg)), ((A 2), .inl (cy 0, 672, .inl mkept)), ((A 3), .inl (cy 0, 672, .inl mspare)), ((A 4), .inl (cy 0, 672, .inl mtrial)), ((A 5), .inl (cy 0, 5376, .inl mpast)), ((A 6), .inl (cy 0, 6, .inl mreport)), ((A 7), .inl (cy 0, 5, .inl mpart)), ((A 8), .inl (cy 0, 5, .inl mcome)), ((A 9), .inl (cy 0, 60, .inl morder)), ((A 10), .inl (cy 0, 80, .inl mtext)), ((A 11), .inl (cy 0, 200, .inl mtold)), ((A 12), .inl (cy 0, 672, .inl mahead))]) post := by
  refine Ctr.of (cc := cX9_catches) (maxL := 4) (ret := (some .int)) (lv0 := [(0, .ref (A 0)), (1, .int p0), (2, .int p1)]) (by decide) rfl (Nat.le_of_ble_eq_true rfl) rfl ?_
  intro X El hR Er Enm ED E En K
  have K : Cx X cX9_catches RX9 wsX9_catches (xTys cy) sd := K
  have E : X.2.2.2.2.2.2.2.2.2.2.1 = xMQ X (fun u : Int32 => some (.int u)) post (fun _ => [((A 0), .inr (10, [.ref (A 1), .ref (A 2), .ref (A 3), .ref (A 4), .int mhasKept, .ref (A 5), .int mpasts, .ref (A 6), .int mreports, .int mthrown, .ref (A 7), .ref (A 8), .ref (A 9), .int mordering, .int mdetail, .ref (A 10), .int mlength, .int mspot, .int mnumber, .ref (A 11), .int mtolds, .ref (A 12)])), ((A 1), .inl (cy 0, 672, .inl mg)), ((A 2), .inl (cy 0, 672, .inl mkept)), ((A 3), .inl (cy 0, 672, .inl mspare)), ((A 4), .inl (cy 0, 672, .inl mtrial)), ((A 5), .inl (cy 0, 5376, .inl mpast)), ((A 6), .inl (cy 0, 6, .inl mreport)), ((A 7), .inl (cy 0, 5, .inl mpart)), ((A 8), .inl (cy 0, 5, .inl mcome)), ((A 9), .inl (cy 0, 60, .inl morder)), ((A 10), .inl (cy 0, 80, .inl mtext)), ((A 11), .inl (cy 0, 200, .inl mtold)), ((A 12), .inl (cy 0, 672, .inl mahead))]) 0 0 := E
  unfold wp_X9_catches at hw
  refine g_aload_n K 0 dX9_catches_0 rfl ?_
  refine g_get K (C := RX9) (T := TX9) (N := 22) 0 0 in_X9_catches_X9 (by decide +kernel) rfl rfl (by decide) rfl dX9_catches_1 ?_
  refine g_iload_n K 1 dX9_catches_4 rfl ?_
  refine g_iconst (v := 1) K dX9_catches_5 rfl ?_
  refine g_callSr (st' := fun u1 => [.int u1, .ref (A 1)]) K hR [.int p0, .int 1] [.ref (A 1)] (c_X9_machineAt X.2.1 (gxD X) cy sd p0 1 hw) gX9_catches_X9_machineAt rfl yok_X9_machineAt rfl (by decide) rfl (Nat.le_of_ble_eq_true rfl) dX9_catches_6 [] rfl (by decide) (fun _ => rfl) ⟨rfl, rfl⟩ (fun u1 hw => ?_)
  refine g_iald K 1 0 rfl rfl hw.1 dX9_catches_9 ?_
  replace hw := hw.2
  refine g_aload_n K 0 dX9_catches_10 rfl ?_
  refine g_get K (C := RX9) (T := TX9) (N := 22) 0 0 in_X9_catches_X9 (by decide +kernel) rfl rfl (by decide) rfl dX9_catches_11 ?_
  refine g_iload_n K 1 dX9_catches_14 rfl ?_
  refine g_iconst (v := 4) K dX9_catches_15 rfl ?_
  refine g_callSr (st' := fun u2 => [.int u2, .ref (A 1), .int (mg (u1).toNatClampNeg)]) K hR [.int p0, .int 4] [.ref (A 1), .int (mg (u1).toNatClampNeg)] (c_X9_machineAt X.2.1 (gxD X) cy sd p0 4 hw) gX9_catches_X9_machineAt rfl yok_X9_machineAt rfl (by decide) rfl (Nat.le_of_ble_eq_true rfl) dX9_catches_16 [] rfl (by decide) (fun _ => rfl) ⟨rfl, rfl⟩ (fun u2 hw => ?_)
  refine g_iald K 1 0 rfl rfl hw.1 dX9_catches_19 ?_
  replace hw := hw.2
  refine g_aload_n K 0 dX9_catches_20 rfl ?_
  refine g_iload_n K 1 dX9_catches_21 rfl ?_
  refine g_iload_n K 2 dX9_catches_22 rfl ?_
  refine g_callVr (st' := fun u3 => [.int u3, .int (mg (u2).toNatClampNeg), .int (mg (u1).toNatClampNeg)]) K hR [.int p0, .int p1] [.int (mg (u2).toNatClampNeg), .int (mg (u1).toNatClampNeg)] 0 rfl rfl (c_X9_excess X.2.1 (gxD X) cy sd A mg mkept mspare mtrial mpast mreport mpart mcome morder mtext mtold mahead mhasKept mpasts mreports mthrown mordering mdetail mlength mspot mnumber mtolds p0 p1 hw) gX9_catches_X9_excess rfl yok_X9_excess rfl rfl (by decide) rfl (Nat.le_of_ble_eq_true rfl) dX9_catches_23 [0, 1, 2, 3, 4, 5, 6, 7, 8, 9, 10, 11, 12] rfl (by decide) (fun _ => rfl) ⟨rfl, rfl⟩ (fun u3 hw => ?_)
  refine g_imul K dX9_catches_26 ?_
  refine g_isub K dX9_catches_27 ?_
  refine g_topi (fun x4 ex4 => ?_)
  replace hw := hw x4 ex4
  refine g_istore_n (lv' := [(3, .int x4), (0, .ref (A 0)), (1, .int p0), (2, .int p1)]) K dX9_catches_28 rfl (by rw [En]; decide) rfl ?_
  refine g_iload_n K 0 dX9_catches_29 rfl ?_
  refine g_bipush (v := 10) K dX9_catches_30 rfl ?_
  refine g_icmp_ge (tgt := 40) K dX9_catches_32 (by decide) (fun hc => ?_) (fun hc => ?_)
  · replace hw := hw.1 hc
    refine g_iload_n K 0 dX9_catches_40 rfl ?_
    exact g_zret K E Er x4 hw rfl rfl rfl (Nat.le_refl _) (Nat.le_refl _) dX9_catches_41
  · replace hw := hw.2 hc
    refine g_bipush (v := 10) K dX9_catches_35 rfl ?_
    refine g_goto (tgt := 41) K dX9_catches_37 (by decide) ?_
    exact g_zret K E Er 10 hw rfl rfl rfl (Nat.le_refl _) (Nat.le_refl _) dX9_catches_41

def wp_X9_mistakes (mg : XRow) (p0 : Int32) (p1 : Int32) (post : Int32 → Prop) : Prop := wp_X9_machineAt p0 2 (fun u1 : Int32 => vp_in u1 672 ∧ (wp_X9_excess mg p0 p1 (fun u2 : Int32 => ∀ x3 : Int32, x3 = (mg (u1).toNatClampNeg) + u2 → ((x3 ≤ 90 → (post x3)) ∧ (¬ x3 ≤ 90 → (post 90))))))
theorem in_X9_mistakes_X9 : ∀ w ∈ u_ws RX9 TX9 22, w ∈ wsX9_mistakes := by decide +kernel
set_option maxRecDepth 100000 in
set_option maxHeartbeats 4000000 in
theorem c_X9_mistakes (l : Launch) (D : va_G) (cy : Nat → ClassId) (sd : xSd) (A : Nat → Nat) (mg : XRow) (mkept : XRow) (mspare : XRow) (mtrial : XRow) (mpast : XRow) (mreport : XRow) (mpart : XRow) (mcome : XRow) (morder : XRow) (mtext : XRow) (mtold : XRow) (mahead : XRow) (mhasKept : Int32) (mpasts : Int32) (mreports : Int32) (mthrown : Int32) (mordering : Int32) (mdetail : Int32) (mlength : Int32) (mspot : Int32) (mnumber : Int32) (mtolds : Int32) (p0 : Int32) (p1 : Int32) {post : Int32 → Prop} (hw : wp_X9_mistakes mg p0 p1 post) : Ctr l D (xTys cy) sd yX9_mistakes wsX9_mistakes ({ frames := 2, cells := 0, slots := 0, locals := 43 } : Room) [.ref (A 0), .int p0, .int p1] (fun u : Int32 => some (.int u)) [((A 0), .inr (10, [.ref (A 1), .ref (A 2), .ref (A 3), .ref (A 4), .int mhasKept, .ref (A 5), .int mpasts, .ref (A 6), .int mreports, .int mthrown, .ref (A 7), .ref (A 8), .ref (A 9), .int mordering, .int mdetail, .ref (A 10), .int mlength, .int mspot, .int mnumber, .ref (A 11), .int mtolds, .ref (A 12)])), ((A 1), .inl (cy 0, 672, .inl mg)), ((A 2), .inl (cy 0, 672, .inl mkept)), ((A 3), .inl (cy 0, 672, .inl mspare)), ((A 4), .inl (cy 0, 672, .inl mtrial)), ((A 5), .inl (cy 0, 5376, .inl mpast)), ((A 6), .inl (cy 0, 6, .inl mreport)), ((A 7), .inl (cy 0, 5, .inl mpart)), ((A 8), .inl (cy 0, 5, .inl mcome)), ((A 9), .inl (cy 0, 60, .inl morder)), ((A 10), .inl (cy 0, 80, .inl mtext)), ((A 11), .inl (cy 0, 200, .inl mtold)), ((A 12), .inl (cy 0, 672, .inl mahead))] (fun _ => [((A 0), .inr (10, [.ref (A 1), .ref (A 2), .ref (A 3), .ref (A 4), .int mhasKept, .ref (A 5), .int mpasts, .ref (A 6), .int mreports, .int mthrown, .ref (A 7), .ref (A 8), .ref (A 9), .int mordering, .int mdetail, .ref (A 10), .int mlength, .int mspot, .int mnumber, .ref (A 11), .int mtolds, .ref (A 12)])), ((A 1), .inl (cy 0, 672, .inl mg)), ((A 2), .inl (cy 0, 672, .inl mkept)), ((A 3), .inl (cy 0, 672, .inl mspare)), ((A 4), .inl (cy 0, 672, .inl mtrial)), ((A 5), .inl (cy 0, 5376, .inl mpast)), ((A 6), .inl (cy 0, 6, .inl mreport)), ((A 7), .inl (cy 0, 5, .inl mpart)), ((A 8), .inl (cy 0, 5, .inl mcome)), ((A 9), .inl (cy 0, 60, .inl morder)), ((A 10), .inl (cy 0, 80, .inl mtext)), ((A 11), .inl (cy 0, 200, .inl mtold)), ((A 12), .inl (cy 0, 672, .inl mahead))]) post := by
  refine Ctr.of (cc := cX9_mistakes) (maxL := 4) (ret := (some .int)) (lv0 := [(0, .ref (A 0)), (1, .int p0), (2, .int p1)]) (by decide) rfl (Nat.le_of_ble_eq_true rfl) rfl ?_
  intro X El hR Er Enm ED E En K
  have K : Cx X cX9_mistakes RX9 wsX9_mistakes (xTys cy) sd := K
  have E : X.2.2.2.2.2.2.2.2.2.2.1 = xMQ X (fun u : Int32 => some (.int u)) post (fun _ => [((A 0), .inr (10, [.ref (A 1), .ref (A 2), .ref (A 3), .ref (A 4), .int mhasKept, .ref (A 5), .int mpasts, .ref (A 6), .int mreports, .int mthrown, .ref (A 7), .ref (A 8), .ref (A 9), .int mordering, .int mdetail, .ref (A 10), .int mlength, .int mspot, .int mnumber, .ref (A 11), .int mtolds, .ref (A 12)])), ((A 1), .inl (cy 0, 672, .inl mg)), ((A 2), .inl (cy 0, 672, .inl mkept)), ((A 3), .inl (cy 0, 672, .inl mspare)), ((A 4), .inl (cy 0, 672, .inl mtrial)), ((A 5), .inl (cy 0, 5376, .inl mpast)), ((A 6), .inl (cy 0, 6, .inl mreport)), ((A 7), .inl (cy 0, 5, .inl mpart)), ((A 8), .inl (cy 0, 5, .inl mcome)), ((A 9), .inl (cy 0, 60, .inl morder)), ((A 10), .inl (cy 0, 80, .inl mtext)), ((A 11), .inl (cy 0, 200, .inl mtold)), ((A 12), .inl (cy 0, 672, .inl mahead))]) 0 0 := E
  unfold wp_X9_mistakes at hw
  refine g_aload_n K 0 dX9_mistakes_0 rfl ?_
  refine g_get K (C := RX9) (T := TX9) (N := 22) 0 0 in_X9_mistakes_X9 (by decide +kernel) rfl rfl (by decide) rfl dX9_mistakes_1 ?_
  refine g_iload_n K 1 dX9_mistakes_4 rfl ?_
  refine g_iconst (v := 2) K dX9_mistakes_5 rfl ?_
  refine g_callSr (st' := fun u1 => [.int u1, .ref (A 1)]) K hR [.int p0, .int 2] [.ref (A 1)] (c_X9_machineAt X.2.1 (gxD X) cy sd p0 2 hw) gX9_mistakes_X9_machineAt rfl yok_X9_machineAt rfl (by decide) rfl (Nat.le_of_ble_eq_true rfl) dX9_mistakes_6 [] rfl (by decide) (fun _ => rfl) ⟨rfl, rfl⟩ (fun u1 hw => ?_)
  refine g_iald K 1 0 rfl rfl hw.1 dX9_mistakes_9 ?_
  replace hw := hw.2
  refine g_aload_n K 0 dX9_mistakes_10 rfl ?_
  refine g_iload_n K 1 dX9_mistakes_11 rfl ?_
  refine g_iload_n K 2 dX9_mistakes_12 rfl ?_
  refine g_callVr (st' := fun u2 => [.int u2, .int (mg (u1).toNatClampNeg)]) K hR [.int p0, .int p1] [.int (mg (u1).toNatClampNeg)] 0 rfl rfl (c_X9_excess X.2.1 (gxD X) cy sd A mg mkept mspare mtrial mpast mreport mpart mcome morder mtext mtold mahead mhasKept mpasts mreports mthrown mordering mdetail mlength mspot mnumber mtolds p0 p1 hw) gX9_mistakes_X9_excess rfl yok_X9_excess rfl rfl (by decide) rfl (Nat.le_of_ble_eq_true rfl) dX9_mistakes_13 [0, 1, 2, 3, 4, 5, 6, 7, 8, 9, 10, 11, 12] rfl (by decide) (fun _ => rfl) ⟨rfl, rfl⟩ (fun u2 hw => ?_)
  refine g_iadd K dX9_mistakes_16 ?_
  refine g_topi (fun x3 ex3 => ?_)
  replace hw := hw x3 ex3
  refine g_istore_n (lv' := [(3, .int x3), (0, .ref (A 0)), (1, .int p0), (2, .int p1)]) K dX9_mistakes_17 rfl (by rw [En]; decide) rfl ?_
  refine g_iload_n K 0 dX9_mistakes_18 rfl ?_
  refine g_bipush (v := 90) K dX9_mistakes_19 rfl ?_
  refine g_icmp_le (tgt := 29) K dX9_mistakes_21 (by decide) (fun hc => ?_) (fun hc => ?_)
  · replace hw := hw.1 hc
    refine g_iload_n K 0 dX9_mistakes_29 rfl ?_
    exact g_zret K E Er x3 hw rfl rfl rfl (Nat.le_refl _) (Nat.le_refl _) dX9_mistakes_30
  · replace hw := hw.2 hc
    refine g_bipush (v := 90) K dX9_mistakes_24 rfl ?_
    refine g_goto (tgt := 30) K dX9_mistakes_26 (by decide) ?_
    exact g_zret K E Er 90 hw rfl rfl rfl (Nat.le_refl _) (Nat.le_refl _) dX9_mistakes_30

def wp_X9_rate (mg : XRow) (p0 : Int32) (p1 : Int32) (p2 : Bool) (post : (Int32 × Int32) → Prop) : Prop := wp_X9_isMachine mg p0 (fun u1 : Bool => (u1 = true → (wp_X9_in p1 0 9999 (fun u2 : Bool => (u2 = true → ((p2 = true → (wp_X9_mistakes mg p0 p1 (fun u4 : Int32 => post (u4, 0)))) ∧ (p2 = false → (wp_X9_catches mg p0 p1 (fun u3 : Int32 => post (u3, 0)))))) ∧ (u2 = false → (post (0, 2)))))) ∧ (u1 = false → (post (0, 1))))
theorem in_X9_rate_X9 : ∀ w ∈ u_ws RX9 TX9 22, w ∈ wsX9_rate := by decide +kernel
set_option maxRecDepth 100000 in
set_option maxHeartbeats 4000000 in
theorem c_X9_rate (l : Launch) (D : va_G) (cy : Nat → ClassId) (sd : xSd) (A : Nat → Nat) (mg : XRow) (mkept : XRow) (mspare : XRow) (mtrial : XRow) (mpast : XRow) (mreport : XRow) (mpart : XRow) (mcome : XRow) (morder : XRow) (mtext : XRow) (mtold : XRow) (mahead : XRow) (mhasKept : Int32) (mpasts : Int32) (mreports : Int32) (mthrown : Int32) (mordering : Int32) (mdetail : Int32) (mlength : Int32) (mspot : Int32) (mnumber : Int32) (mtolds : Int32) (p0 : Int32) (p1 : Int32) (p2 : Bool) {post : (Int32 × Int32) → Prop} (hw : wp_X9_rate mg p0 p1 p2 post) : Ctr l D (xTys cy) sd yX9_rate wsX9_rate ({ frames := 3, cells := 0, slots := 0, locals := 66 } : Room) [.ref (A 0), .int p0, .int p1, .int (bI p2)] (fun u : Int32 × Int32 => some (.int u.1)) [((A 0), .inr (10, [.ref (A 1), .ref (A 2), .ref (A 3), .ref (A 4), .int mhasKept, .ref (A 5), .int mpasts, .ref (A 6), .int mreports, .int mthrown, .ref (A 7), .ref (A 8), .ref (A 9), .int mordering, .int mdetail, .ref (A 10), .int mlength, .int mspot, .int mnumber, .ref (A 11), .int mtolds, .ref (A 12)])), ((A 1), .inl (cy 0, 672, .inl mg)), ((A 2), .inl (cy 0, 672, .inl mkept)), ((A 3), .inl (cy 0, 672, .inl mspare)), ((A 4), .inl (cy 0, 672, .inl mtrial)), ((A 5), .inl (cy 0, 5376, .inl mpast)), ((A 6), .inl (cy 0, 6, .inl mreport)), ((A 7), .inl (cy 0, 5, .inl mpart)), ((A 8), .inl (cy 0, 5, .inl mcome)), ((A 9), .inl (cy 0, 60, .inl morder)), ((A 10), .inl (cy 0, 80, .inl mtext)), ((A 11), .inl (cy 0, 200, .inl mtold)), ((A 12), .inl (cy 0, 672, .inl mahead))] (fun u => [((A 0), .inr (10, [.ref (A 1), .ref (A 2), .ref (A 3), .ref (A 4), .int mhasKept, .ref (A 5), .int mpasts, .ref (A 6), .int mreports, .int u.2, .ref (A 7), .ref (A 8), .ref (A 9), .int mordering, .int mdetail, .ref (A 10), .int mlength, .int mspot, .int mnumber, .ref (A 11), .int mtolds, .ref (A 12)])), ((A 1), .inl (cy 0, 672, .inl mg)), ((A 2), .inl (cy 0, 672, .inl mkept)), ((A 3), .inl (cy 0, 672, .inl mspare)), ((A 4), .inl (cy 0, 672, .inl mtrial)), ((A 5), .inl (cy 0, 5376, .inl mpast)), ((A 6), .inl (cy 0, 6, .inl mreport)), ((A 7), .inl (cy 0, 5, .inl mpart)), ((A 8), .inl (cy 0, 5, .inl mcome)), ((A 9), .inl (cy 0, 60, .inl morder)), ((A 10), .inl (cy 0, 80, .inl mtext)), ((A 11), .inl (cy 0, 200, .inl mtold)), ((A 12), .inl (cy 0, 672, .inl mahead))]) post := by
  refine Ctr.of (cc := cX9_rate) (maxL := 4) (ret := (some .int)) (lv0 := [(0, .ref (A 0)), (1, .int p0), (2, .int p1), (3, .int (bI p2))]) (by decide) rfl (Nat.le_of_ble_eq_true rfl) rfl ?_
  intro X El hR Er Enm ED E En K
  have K : Cx X cX9_rate RX9 wsX9_rate (xTys cy) sd := K
  have E : X.2.2.2.2.2.2.2.2.2.2.1 = xMQ X (fun u : Int32 × Int32 => some (.int u.1)) post (fun u => [((A 0), .inr (10, [.ref (A 1), .ref (A 2), .ref (A 3), .ref (A 4), .int mhasKept, .ref (A 5), .int mpasts, .ref (A 6), .int mreports, .int u.2, .ref (A 7), .ref (A 8), .ref (A 9), .int mordering, .int mdetail, .ref (A 10), .int mlength, .int mspot, .int mnumber, .ref (A 11), .int mtolds, .ref (A 12)])), ((A 1), .inl (cy 0, 672, .inl mg)), ((A 2), .inl (cy 0, 672, .inl mkept)), ((A 3), .inl (cy 0, 672, .inl mspare)), ((A 4), .inl (cy 0, 672, .inl mtrial)), ((A 5), .inl (cy 0, 5376, .inl mpast)), ((A 6), .inl (cy 0, 6, .inl mreport)), ((A 7), .inl (cy 0, 5, .inl mpart)), ((A 8), .inl (cy 0, 5, .inl mcome)), ((A 9), .inl (cy 0, 60, .inl morder)), ((A 10), .inl (cy 0, 80, .inl mtext)), ((A 11), .inl (cy 0, 200, .inl mtold)), ((A 12), .inl (cy 0, 672, .inl mahead))]) 0 0 := E
  unfold wp_X9_rate at hw
  refine g_aload_n K 0 dX9_rate_0 rfl ?_
  refine g_aload_n K 0 dX9_rate_1 rfl ?_
  refine g_iload_n K 1 dX9_rate_2 rfl ?_
  refine g_callVr (st' := fun u1 => [.int (bI u1), .ref (A 0)]) K hR [.int p0] [.ref (A 0)] 0 rfl rfl (c_X9_isMachine X.2.1 (gxD X) cy sd A mg mkept mspare mtrial mpast mreport mpart mcome morder mtext mtold mahead mhasKept mpasts mreports mthrown mordering mdetail mlength mspot mnumber mtolds p0 hw) gX9_rate_X9_isMachine rfl yok_X9_isMachine rfl rfl (by decide) rfl (Nat.le_of_ble_eq_true rfl) dX9_rate_3 [0, 1, 2, 3, 4, 5, 6, 7, 8, 9, 10, 11, 12] rfl (by decide) (fun _ => rfl) ⟨rfl, rfl⟩ (fun u1 hw => ?_)
  refine g_ifb_eq (tgt := 28) K dX9_rate_6 (by decide) (fun hc => ?_) (fun hc => ?_)
  · replace hw := hw.2 hc
    refine g_iconst (v := 1) K dX9_rate_28 rfl ?_
    refine g_put (ty := .int) (ws' := [((A 0), .inr (10, [.ref (A 1), .ref (A 2), .ref (A 3), .ref (A 4), .int mhasKept, .ref (A 5), .int mpasts, .ref (A 6), .int mreports, .int 1, .ref (A 7), .ref (A 8), .ref (A 9), .int mordering, .int mdetail, .ref (A 10), .int mlength, .int mspot, .int mnumber, .ref (A 11), .int mtolds, .ref (A 12)])), ((A 1), .inl (cy 0, 672, .inl mg)), ((A 2), .inl (cy 0, 672, .inl mkept)), ((A 3), .inl (cy 0, 672, .inl mspare)), ((A 4), .inl (cy 0, 672, .inl mtrial)), ((A 5), .inl (cy 0, 5376, .inl mpast)), ((A 6), .inl (cy 0, 6, .inl mreport)), ((A 7), .inl (cy 0, 5, .inl mpart)), ((A 8), .inl (cy 0, 5, .inl mcome)), ((A 9), .inl (cy 0, 60, .inl morder)), ((A 10), .inl (cy 0, 80, .inl mtext)), ((A 11), .inl (cy 0, 200, .inl mtold)), ((A 12), .inl (cy 0, 672, .inl mahead))]) K (C := RX9) (T := TX9) (N := 22) 0 9 in_X9_rate_X9 tyX9 tyX9_ok nmX9 (by decide +kernel) rfl rfl (by decide) rfl (by decide +kernel) rfl rfl (Nat.le_of_ble_eq_true rfl) rfl dX9_rate_29 ?_
    refine g_aload_n K 0 dX9_rate_32 rfl ?_
    refine g_get K (C := RX9) (T := TX9) (N := 22) 0 9 in_X9_rate_X9 (by decide +kernel) rfl rfl (by decide) rfl dX9_rate_33 ?_
    refine g_if_le (tgt := 43) K dX9_rate_36 (by decide) (fun hc => absurd hc (by decide)) (fun _ => ?_)
    refine g_iconst (v := 0) K dX9_rate_39 rfl ?_
    refine g_goto (tgt := 62) K dX9_rate_40 (by decide) ?_
    exact g_zret K E Er (0, 1) hw rfl rfl rfl (Nat.le_refl _) (Nat.le_refl _) dX9_rate_62
  · replace hw := hw.1 hc
    refine g_iload_n K 2 dX9_rate_9 rfl ?_
    refine g_iconst (v := 0) K dX9_rate_10 rfl ?_
    refine g_sipush (v := 9999) K dX9_rate_11 rfl ?_
    refine g_callSr (st' := fun u2 => [.int (bI u2), .ref (A 0)]) K hR [.int p1, .int 0, .int 9999] [.ref (A 0)] (c_X9_in X.2.1 (gxD X) cy sd p1 0 9999 hw) gX9_rate_X9_in rfl yok_X9_in rfl (by decide) rfl (Nat.le_of_ble_eq_true rfl) dX9_rate_14 [] rfl (by decide) (fun _ => rfl) ⟨rfl, rfl⟩ (fun u2 hw => ?_)
    refine g_ifb_eq (tgt := 24) K dX9_rate_17 (by decide) (fun hc => ?_) (fun hc => ?_)
    · replace hw := hw.2 hc
      refine g_iconst (v := 2) K dX9_rate_24 rfl ?_
      refine g_goto (tgt := 29) K dX9_rate_25 (by decide) ?_
      refine g_put (ty := .int) (ws' := [((A 0), .inr (10, [.ref (A 1), .ref (A 2), .ref (A 3), .ref (A 4), .int mhasKept, .ref (A 5), .int mpasts, .ref (A 6), .int mreports, .int 2, .ref (A 7), .ref (A 8), .ref (A 9), .int mordering, .int mdetail, .ref (A 10), .int mlength, .int mspot, .int mnumber, .ref (A 11), .int mtolds, .ref (A 12)])), ((A 1), .inl (cy 0, 672, .inl mg)), ((A 2), .inl (cy 0, 672, .inl mkept)), ((A 3), .inl (cy 0, 672, .inl mspare)), ((A 4), .inl (cy 0, 672, .inl mtrial)), ((A 5), .inl (cy 0, 5376, .inl mpast)), ((A 6), .inl (cy 0, 6, .inl mreport)), ((A 7), .inl (cy 0, 5, .inl mpart)), ((A 8), .inl (cy 0, 5, .inl mcome)), ((A 9), .inl (cy 0, 60, .inl morder)), ((A 10), .inl (cy 0, 80, .inl mtext)), ((A 11), .inl (cy 0, 200, .inl mtold)), ((A 12), .inl (cy 0, 672, .inl mahead))]) K (C := RX9) (T := TX9) (N := 22) 0 9 in_X9_rate_X9 tyX9 tyX9_ok nmX9 (by decide +kernel) rfl rfl (by decide) rfl (by decide +kernel) rfl rfl (Nat.le_of_ble_eq_true rfl) rfl dX9_rate_29 ?_
      refine g_aload_n K 0 dX9_rate_32 rfl ?_
      refine g_get K (C := RX9) (T := TX9) (N := 22) 0 9 in_X9_rate_X9 (by decide +kernel) rfl rfl (by decide) rfl dX9_rate_33 ?_
      refine g_if_le (tgt := 43) K dX9_rate_36 (by decide) (fun hc => absurd hc (by decide)) (fun _ => ?_)
      refine g_iconst (v := 0) K dX9_rate_39 rfl ?_
      refine g_goto (tgt := 62) K dX9_rate_40 (by decide) ?_
      exact g_zret K E Er (0, 2) hw rfl rfl rfl (Nat.le_refl _) (Nat.le_refl _) dX9_rate_62
    · replace hw := hw.1 hc
      refine g_iconst (v := 0) K dX9_rate_20 rfl ?_
      refine g_goto (tgt := 29) K dX9_rate_21 (by decide) ?_
      refine g_put (ty := .int) (ws' := [((A 0), .inr (10, [.ref (A 1), .ref (A 2), .ref (A 3), .ref (A 4), .int mhasKept, .ref (A 5), .int mpasts, .ref (A 6), .int mreports, .int 0, .ref (A 7), .ref (A 8), .ref (A 9), .int mordering, .int mdetail, .ref (A 10), .int mlength, .int mspot, .int mnumber, .ref (A 11), .int mtolds, .ref (A 12)])), ((A 1), .inl (cy 0, 672, .inl mg)), ((A 2), .inl (cy 0, 672, .inl mkept)), ((A 3), .inl (cy 0, 672, .inl mspare)), ((A 4), .inl (cy 0, 672, .inl mtrial)), ((A 5), .inl (cy 0, 5376, .inl mpast)), ((A 6), .inl (cy 0, 6, .inl mreport)), ((A 7), .inl (cy 0, 5, .inl mpart)), ((A 8), .inl (cy 0, 5, .inl mcome)), ((A 9), .inl (cy 0, 60, .inl morder)), ((A 10), .inl (cy 0, 80, .inl mtext)), ((A 11), .inl (cy 0, 200, .inl mtold)), ((A 12), .inl (cy 0, 672, .inl mahead))]) K (C := RX9) (T := TX9) (N := 22) 0 9 in_X9_rate_X9 tyX9 tyX9_ok nmX9 (by decide +kernel) rfl rfl (by decide) rfl (by decide +kernel) rfl rfl (Nat.le_of_ble_eq_true rfl) rfl dX9_rate_29 ?_
      refine g_aload_n K 0 dX9_rate_32 rfl ?_
      refine g_get K (C := RX9) (T := TX9) (N := 22) 0 9 in_X9_rate_X9 (by decide +kernel) rfl rfl (by decide) rfl dX9_rate_33 ?_
      refine g_if_le (tgt := 43) K dX9_rate_36 (by decide) (fun _ => ?_) (fun hc => absurd (by decide) hc)
      refine g_iload_n K 3 dX9_rate_43 rfl ?_
      refine g_ifb_eq (tgt := 56) K dX9_rate_44 (by decide) (fun hc => ?_) (fun hc => ?_)
      · replace hw := hw.2 hc
        refine g_aload_n K 0 dX9_rate_56 rfl ?_
        refine g_iload_n K 1 dX9_rate_57 rfl ?_
        refine g_iload_n K 2 dX9_rate_58 rfl ?_
        refine g_callVr (st' := fun u3 => [.int u3]) K hR [.int p0, .int p1] [] 0 rfl rfl (c_X9_catches X.2.1 (gxD X) cy sd A mg mkept mspare mtrial mpast mreport mpart mcome morder mtext mtold mahead mhasKept mpasts mreports 0 mordering mdetail mlength mspot mnumber mtolds p0 p1 hw) gX9_rate_X9_catches rfl yok_X9_catches rfl rfl (by decide) rfl (Nat.le_of_ble_eq_true rfl) dX9_rate_59 [0, 1, 2, 3, 4, 5, 6, 7, 8, 9, 10, 11, 12] rfl (by decide) (fun _ => rfl) ⟨rfl, rfl⟩ (fun u3 hw => ?_)
        exact g_zret K E Er (u3, 0) hw rfl rfl rfl (Nat.le_refl _) (Nat.le_refl _) dX9_rate_62
      · replace hw := hw.1 hc
        refine g_aload_n K 0 dX9_rate_47 rfl ?_
        refine g_iload_n K 1 dX9_rate_48 rfl ?_
        refine g_iload_n K 2 dX9_rate_49 rfl ?_
        refine g_callVr (st' := fun u4 => [.int u4]) K hR [.int p0, .int p1] [] 0 rfl rfl (c_X9_mistakes X.2.1 (gxD X) cy sd A mg mkept mspare mtrial mpast mreport mpart mcome morder mtext mtold mahead mhasKept mpasts mreports 0 mordering mdetail mlength mspot mnumber mtolds p0 p1 hw) gX9_rate_X9_mistakes rfl yok_X9_mistakes rfl rfl (by decide) rfl (Nat.le_of_ble_eq_true rfl) dX9_rate_50 [0, 1, 2, 3, 4, 5, 6, 7, 8, 9, 10, 11, 12] rfl (by decide) (fun _ => rfl) ⟨rfl, rfl⟩ (fun u4 hw => ?_)
        refine g_goto (tgt := 62) K dX9_rate_53 (by decide) ?_
        exact g_zret K E Er (u4, 0) hw rfl rfl rfl (Nat.le_refl _) (Nat.le_refl _) dX9_rate_62

def wp_X9_maySet (p0 : Int32) (p1 : Int32) (post : Bool → Prop) : Prop := (p0 = 0 → (wp_X9_in p1 1 500 (fun u5 : Bool => post u5))) ∧ (¬ p0 = 0 → ((p0 = 1 → (wp_X9_in p1 0 100 (fun u4 : Bool => post u4))) ∧ (¬ p0 = 1 → ((p0 = 2 → (wp_X9_in p1 10 200 (fun u3 : Bool => post u3))) ∧ (¬ p0 = 2 → ((p0 = 3 → (wp_X9_in p1 1 50 (fun u2 : Bool => post u2))) ∧ (¬ p0 = 3 → (wp_X9_in p1 0 1 (fun u1 : Bool => post u1)))))))))
set_option maxRecDepth 100000 in
set_option maxHeartbeats 4000000 in
theorem c_X9_maySet (l : Launch) (D : va_G) (cy : Nat → ClassId) (sd : xSd)  (p0 : Int32) (p1 : Int32) {post : Bool → Prop} (hw : wp_X9_maySet p0 p1 post) : Ctr l D (xTys cy) sd yX9_maySet wsX9_maySet ({ frames := 1, cells := 0, slots := 0, locals := 22 } : Room) [.int p0, .int p1] (fun u : Bool => some (.int (bI u))) [] (fun _ => []) post := by
  refine Ctr.of (cc := cX9_maySet) (maxL := 2) (ret := (some .boolean)) (lv0 := [(0, .int p0), (1, .int p1)]) (by decide) rfl (Nat.le_of_ble_eq_true rfl) rfl ?_
  intro X El hR Er Enm ED E En K
  have K : Cx X cX9_maySet RX9 wsX9_maySet (xTys cy) sd := K
  have E : X.2.2.2.2.2.2.2.2.2.2.1 = xMQ X (fun u : Bool => some (.int (bI u))) post (fun _ => []) 0 0 := E
  unfold wp_X9_maySet at hw
  refine g_iload_n K 0 dX9_maySet_0 rfl ?_
  refine g_if_ne (tgt := 15) K dX9_maySet_1 (by decide) (fun hc => ?_) (fun hc => ?_)
  · replace hw := hw.2 hc
    refine g_iload_n K 0 dX9_maySet_15 rfl ?_
    refine g_iconst (v := 1) K dX9_maySet_16 rfl ?_
    refine g_icmp_ne (tgt := 30) K dX9_maySet_17 (by decide) (fun hc => ?_) (fun hc => ?_)
    · replace hw := hw.2 hc
      refine g_iload_n K 0 dX9_maySet_30 rfl ?_
      refine g_iconst (v := 2) K dX9_maySet_31 rfl ?_
      refine g_icmp_ne (tgt := 47) K dX9_maySet_32 (by decide) (fun hc => ?_) (fun hc => ?_)
      · replace hw := hw.2 hc
        refine g_iload_n K 0 dX9_maySet_47 rfl ?_
        refine g_iconst (v := 3) K dX9_maySet_48 rfl ?_
        refine g_icmp_ne (tgt := 62) K dX9_maySet_49 (by decide) (fun hc => ?_) (fun hc => ?_)
        · replace hw := hw.2 hc
          refine g_iload_n K 1 dX9_maySet_62 rfl ?_
          refine g_iconst (v := 0) K dX9_maySet_63 rfl ?_
          refine g_iconst (v := 1) K dX9_maySet_64 rfl ?_
          refine g_callSr (st' := fun u1 => [.int (bI u1)]) K hR [.int p1, .int 0, .int 1] [] (c_X9_in X.2.1 (gxD X) cy sd p1 0 1 hw) gX9_maySet_X9_in rfl yok_X9_in rfl (by decide) rfl (Nat.le_of_ble_eq_true rfl) dX9_maySet_65 [] rfl (by decide) (fun _ => rfl) ⟨rfl, rfl⟩ (fun u1 hw => ?_)
          exact g_zret K E Er u1 hw rfl (bI_narrow _) rfl (Nat.le_refl _) (Nat.le_refl _) dX9_maySet_68
        · replace hw := hw.1 hc
          refine g_iload_n K 1 dX9_maySet_52 rfl ?_
          refine g_iconst (v := 1) K dX9_maySet_53 rfl ?_
          refine g_bipush (v := 50) K dX9_maySet_54 rfl ?_
          refine g_callSr (st' := fun u2 => [.int (bI u2)]) K hR [.int p1, .int 1, .int 50] [] (c_X9_in X.2.1 (gxD X) cy sd p1 1 50 hw) gX9_maySet_X9_in rfl yok_X9_in rfl (by decide) rfl (Nat.le_of_ble_eq_true rfl) dX9_maySet_56 [] rfl (by decide) (fun _ => rfl) ⟨rfl, rfl⟩ (fun u2 hw => ?_)
          refine g_goto (tgt := 68) K dX9_maySet_59 (by decide) ?_
          exact g_zret K E Er u2 hw rfl (bI_narrow _) rfl (Nat.le_refl _) (Nat.le_refl _) dX9_maySet_68
      · replace hw := hw.1 hc
        refine g_iload_n K 1 dX9_maySet_35 rfl ?_
        refine g_bipush (v := 10) K dX9_maySet_36 rfl ?_
        refine g_sipush (v := 200) K dX9_maySet_38 rfl ?_
        refine g_callSr (st' := fun u3 => [.int (bI u3)]) K hR [.int p1, .int 10, .int 200] [] (c_X9_in X.2.1 (gxD X) cy sd p1 10 200 hw) gX9_maySet_X9_in rfl yok_X9_in rfl (by decide) rfl (Nat.le_of_ble_eq_true rfl) dX9_maySet_41 [] rfl (by decide) (fun _ => rfl) ⟨rfl, rfl⟩ (fun u3 hw => ?_)
        refine g_goto (tgt := 68) K dX9_maySet_44 (by decide) ?_
        exact g_zret K E Er u3 hw rfl (bI_narrow _) rfl (Nat.le_refl _) (Nat.le_refl _) dX9_maySet_68
    · replace hw := hw.1 hc
      refine g_iload_n K 1 dX9_maySet_20 rfl ?_
      refine g_iconst (v := 0) K dX9_maySet_21 rfl ?_
      refine g_bipush (v := 100) K dX9_maySet_22 rfl ?_
      refine g_callSr (st' := fun u4 => [.int (bI u4)]) K hR [.int p1, .int 0, .int 100] [] (c_X9_in X.2.1 (gxD X) cy sd p1 0 100 hw) gX9_maySet_X9_in rfl yok_X9_in rfl (by decide) rfl (Nat.le_of_ble_eq_true rfl) dX9_maySet_24 [] rfl (by decide) (fun _ => rfl) ⟨rfl, rfl⟩ (fun u4 hw => ?_)
      refine g_goto (tgt := 68) K dX9_maySet_27 (by decide) ?_
      exact g_zret K E Er u4 hw rfl (bI_narrow _) rfl (Nat.le_refl _) (Nat.le_refl _) dX9_maySet_68
  · replace hw := hw.1 hc
    refine g_iload_n K 1 dX9_maySet_4 rfl ?_
    refine g_iconst (v := 1) K dX9_maySet_5 rfl ?_
    refine g_sipush (v := 500) K dX9_maySet_6 rfl ?_
    refine g_callSr (st' := fun u5 => [.int (bI u5)]) K hR [.int p1, .int 1, .int 500] [] (c_X9_in X.2.1 (gxD X) cy sd p1 1 500 hw) gX9_maySet_X9_in rfl yok_X9_in rfl (by decide) rfl (Nat.le_of_ble_eq_true rfl) dX9_maySet_9 [] rfl (by decide) (fun _ => rfl) ⟨rfl, rfl⟩ (fun u5 hw => ?_)
    refine g_goto (tgt := 68) K dX9_maySet_12 (by decide) ?_
    exact g_zret K E Er u5 hw rfl (bI_narrow _) rfl (Nat.le_refl _) (Nat.le_refl _) dX9_maySet_68

def wp_X9_set (mg : XRow) (mpast : XRow) (mpasts : Int32) (p0 : Int32) (p1 : Int32) (post : (Int32 × Int32 × Int32 × XRow × XRow) → Prop) : Prop := wp_X9_in p0 0 4 (fun u1 : Bool => (u1 = true → (wp_X9_maySet p0 p1 (fun u2 : Bool => (u2 = true → (wp_X9_changes_o1 mg mpast mpasts (fun u3 : Int32 × XRow => vp_in (6 + p0) 672 ∧ (∀ x4 : Int32, x4 = mg (6 + p0).toNatClampNeg → (vp_in (6 + p0) 672 ∧ (post (x4, u3.1, 0, upd mg (6 + p0).toNatClampNeg p1, u3.2))))))) ∧ (u2 = false → (post (0, mpasts, 2, mg, mpast)))))) ∧ (u1 = false → (post (0, mpasts, 1, mg, mpast))))
theorem in_X9_set_X9 : ∀ w ∈ u_ws RX9 TX9 22, w ∈ wsX9_set := by decide +kernel
set_option maxRecDepth 100000 in
set_option maxHeartbeats 4000000 in
theorem c_X9_set (l : Launch) (D : va_G) (cy : Nat → ClassId) (sd : xSd) (A : Nat → Nat) (mg : XRow) (mkept : XRow) (mspare : XRow) (mtrial : XRow) (mpast : XRow) (mreport : XRow) (mpart : XRow) (mcome : XRow) (morder : XRow) (mtext : XRow) (mtold : XRow) (mahead : XRow) (mhasKept : Int32) (mpasts : Int32) (mreports : Int32) (mthrown : Int32) (mordering : Int32) (mdetail : Int32) (mlength : Int32) (mspot : Int32) (mnumber : Int32) (mtolds : Int32) (p0 : Int32) (p1 : Int32) {post : (Int32 × Int32 × Int32 × XRow × XRow) → Prop} (hw : wp_X9_set mg mpast mpasts p0 p1 post) : Ctr l D (xTys cy) sd yX9_set wsX9_set ({ frames := 2, cells := 0, slots := 0, locals := 46 } : Room) [.ref (A 0), .int p0, .int p1] (fun u : Int32 × Int32 × Int32 × XRow × XRow => some (.int u.1)) [((A 0), .inr (10, [.ref (A 1), .ref (A 2), .ref (A 3), .ref (A 4), .int mhasKept, .ref (A 5), .int mpasts, .ref (A 6), .int mreports, .int mthrown, .ref (A 7), .ref (A 8), .ref (A 9), .int mordering, .int mdetail, .ref (A 10), .int mlength, .int mspot, .int mnumber, .ref (A 11), .int mtolds, .ref (A 12)])), ((A 1), .inl (cy 0, 672, .inl mg)), ((A 2), .inl (cy 0, 672, .inl mkept)), ((A 3), .inl (cy 0, 672, .inl mspare)), ((A 4), .inl (cy 0, 672, .inl mtrial)), ((A 5), .inl (cy 0, 5376, .inl mpast)), ((A 6), .inl (cy 0, 6, .inl mreport)), ((A 7), .inl (cy 0, 5, .inl mpart)), ((A 8), .inl (cy 0, 5, .inl mcome)), ((A 9), .inl (cy 0, 60, .inl morder)), ((A 10), .inl (cy 0, 80, .inl mtext)), ((A 11), .inl (cy 0, 200, .inl mtold)), ((A 12), .inl (cy 0, 672, .inl mahead))] (fun u => [((A 0), .inr (10, [.ref (A 1), .ref (A 2), .ref (A 3), .ref (A 4), .int mhasKept, .ref (A 5), .int u.2.1, .ref (A 6), .int mreports, .int u.2.2.1, .ref (A 7), .ref (A 8), .ref (A 9), .int mordering, .int mdetail, .ref (A 10), .int mlength, .int mspot, .int mnumber, .ref (A 11), .int mtolds, .ref (A 12)])), ((A 1), .inl (cy 0, 672, .inl u.2.2.2.1)), ((A 2), .inl (cy 0, 672, .inl mkept)), ((A 3), .inl (cy 0, 672, .inl mspare)), ((A 4), .inl (cy 0, 672, .inl mtrial)), ((A 5), .inl (cy 0, 5376, .inl u.2.2.2.2)), ((A 6), .inl (cy 0, 6, .inl mreport)), ((A 7), .inl (cy 0, 5, .inl mpart)), ((A 8), .inl (cy 0, 5, .inl mcome)), ((A 9), .inl (cy 0, 60, .inl morder)), ((A 10), .inl (cy 0, 80, .inl mtext)), ((A 11), .inl (cy 0, 200, .inl mtold)), ((A 12), .inl (cy 0, 672, .inl mahead))]) post := by
  refine Ctr.of (cc := cX9_set) (maxL := 4) (ret := (some .int)) (lv0 := [(0, .ref (A 0)), (1, .int p0), (2, .int p1)]) (by decide) rfl (Nat.le_of_ble_eq_true rfl) rfl ?_
  intro X El hR Er Enm ED E En K
  have K : Cx X cX9_set RX9 wsX9_set (xTys cy) sd := K
  have E : X.2.2.2.2.2.2.2.2.2.2.1 = xMQ X (fun u : Int32 × Int32 × Int32 × XRow × XRow => some (.int u.1)) post (fun u => [((A 0), .inr (10, [.ref (A 1), .ref (A 2), .ref (A 3), .ref (A 4), .int mhasKept, .ref (A 5), .int u.2.1, .ref (A 6), .int mreports, .int u.2.2.1, .ref (A 7), .ref (A 8), .ref (A 9), .int mordering, .int mdetail, .ref (A 10), .int mlength, .int mspot, .int mnumber, .ref (A 11), .int mtolds, .ref (A 12)])), ((A 1), .inl (cy 0, 672, .inl u.2.2.2.1)), ((A 2), .inl (cy 0, 672, .inl mkept)), ((A 3), .inl (cy 0, 672, .inl mspare)), ((A 4), .inl (cy 0, 672, .inl mtrial)), ((A 5), .inl (cy 0, 5376, .inl u.2.2.2.2)), ((A 6), .inl (cy 0, 6, .inl mreport)), ((A 7), .inl (cy 0, 5, .inl mpart)), ((A 8), .inl (cy 0, 5, .inl mcome)), ((A 9), .inl (cy 0, 60, .inl morder)), ((A 10), .inl (cy 0, 80, .inl mtext)), ((A 11), .inl (cy 0, 200, .inl mtold)), ((A 12), .inl (cy 0, 672, .inl mahead))]) 0 0 := E
  unfold wp_X9_set at hw
  refine g_aload_n K 0 dX9_set_0 rfl ?_
  refine g_iload_n K 1 dX9_set_1 rfl ?_
  refine g_iconst (v := 0) K dX9_set_2 rfl ?_
  refine g_iconst (v := 4) K dX9_set_3 rfl ?_
  refine g_callSr (st' := fun u1 => [.int (bI u1), .ref (A 0)]) K hR [.int p0, .int 0, .int 4] [.ref (A 0)] (c_X9_in X.2.1 (gxD X) cy sd p0 0 4 hw) gX9_set_X9_in rfl yok_X9_in rfl (by decide) rfl (Nat.le_of_ble_eq_true rfl) dX9_set_4 [] rfl (by decide) (fun _ => rfl) ⟨rfl, rfl⟩ (fun u1 hw => ?_)
  refine g_ifb_eq (tgt := 26) K dX9_set_7 (by decide) (fun hc => ?_) (fun hc => ?_)
  · replace hw := hw.2 hc
    refine g_iconst (v := 1) K dX9_set_26 rfl ?_
    refine g_put (ty := .int) (ws' := [((A 0), .inr (10, [.ref (A 1), .ref (A 2), .ref (A 3), .ref (A 4), .int mhasKept, .ref (A 5), .int mpasts, .ref (A 6), .int mreports, .int 1, .ref (A 7), .ref (A 8), .ref (A 9), .int mordering, .int mdetail, .ref (A 10), .int mlength, .int mspot, .int mnumber, .ref (A 11), .int mtolds, .ref (A 12)])), ((A 1), .inl (cy 0, 672, .inl mg)), ((A 2), .inl (cy 0, 672, .inl mkept)), ((A 3), .inl (cy 0, 672, .inl mspare)), ((A 4), .inl (cy 0, 672, .inl mtrial)), ((A 5), .inl (cy 0, 5376, .inl mpast)), ((A 6), .inl (cy 0, 6, .inl mreport)), ((A 7), .inl (cy 0, 5, .inl mpart)), ((A 8), .inl (cy 0, 5, .inl mcome)), ((A 9), .inl (cy 0, 60, .inl morder)), ((A 10), .inl (cy 0, 80, .inl mtext)), ((A 11), .inl (cy 0, 200, .inl mtold)), ((A 12), .inl (cy 0, 672, .inl mahead))]) K (C := RX9) (T := TX9) (N := 22) 0 9 in_X9_set_X9 tyX9 tyX9_ok nmX9 (by decide +kernel) rfl rfl (by decide) rfl (by decide +kernel) rfl rfl (Nat.le_of_ble_eq_true rfl) rfl dX9_set_27 ?_
    refine g_aload_n K 0 dX9_set_30 rfl ?_
    refine g_get K (C := RX9) (T := TX9) (N := 22) 0 9 in_X9_set_X9 (by decide +kernel) rfl rfl (by decide) rfl dX9_set_31 ?_
    refine g_if_le (tgt := 39) K dX9_set_34 (by decide) (fun hc => absurd hc (by decide)) (fun _ => ?_)
    refine g_iconst (v := 0) K dX9_set_37 rfl ?_
    exact g_zret K E Er (0, mpasts, 1, mg, mpast) hw rfl rfl rfl (Nat.le_refl _) (Nat.le_refl _) dX9_set_38
  · replace hw := hw.1 hc
    refine g_iload_n K 1 dX9_set_10 rfl ?_
    refine g_iload_n K 2 dX9_set_11 rfl ?_
    refine g_callSr (st' := fun u2 => [.int (bI u2), .ref (A 0)]) K hR [.int p0, .int p1] [.ref (A 0)] (c_X9_maySet X.2.1 (gxD X) cy sd p0 p1 hw) gX9_set_X9_maySet rfl yok_X9_maySet rfl (by decide) rfl (Nat.le_of_ble_eq_true rfl) dX9_set_12 [] rfl (by decide) (fun _ => rfl) ⟨rfl, rfl⟩ (fun u2 hw => ?_)
    refine g_ifb_eq (tgt := 22) K dX9_set_15 (by decide) (fun hc => ?_) (fun hc => ?_)
    · replace hw := hw.2 hc
      refine g_iconst (v := 2) K dX9_set_22 rfl ?_
      refine g_goto (tgt := 27) K dX9_set_23 (by decide) ?_
      refine g_put (ty := .int) (ws' := [((A 0), .inr (10, [.ref (A 1), .ref (A 2), .ref (A 3), .ref (A 4), .int mhasKept, .ref (A 5), .int mpasts, .ref (A 6), .int mreports, .int 2, .ref (A 7), .ref (A 8), .ref (A 9), .int mordering, .int mdetail, .ref (A 10), .int mlength, .int mspot, .int mnumber, .ref (A 11), .int mtolds, .ref (A 12)])), ((A 1), .inl (cy 0, 672, .inl mg)), ((A 2), .inl (cy 0, 672, .inl mkept)), ((A 3), .inl (cy 0, 672, .inl mspare)), ((A 4), .inl (cy 0, 672, .inl mtrial)), ((A 5), .inl (cy 0, 5376, .inl mpast)), ((A 6), .inl (cy 0, 6, .inl mreport)), ((A 7), .inl (cy 0, 5, .inl mpart)), ((A 8), .inl (cy 0, 5, .inl mcome)), ((A 9), .inl (cy 0, 60, .inl morder)), ((A 10), .inl (cy 0, 80, .inl mtext)), ((A 11), .inl (cy 0, 200, .inl mtold)), ((A 12), .inl (cy 0, 672, .inl mahead))]) K (C := RX9) (T := TX9) (N := 22) 0 9 in_X9_set_X9 tyX9 tyX9_ok nmX9 (by decide +kernel) rfl rfl (by decide) rfl (by decide +kernel) rfl rfl (Nat.le_of_ble_eq_true rfl) rfl dX9_set_27 ?_
      refine g_aload_n K 0 dX9_set_30 rfl ?_
      refine g_get K (C := RX9) (T := TX9) (N := 22) 0 9 in_X9_set_X9 (by decide +kernel) rfl rfl (by decide) rfl dX9_set_31 ?_
      refine g_if_le (tgt := 39) K dX9_set_34 (by decide) (fun hc => absurd hc (by decide)) (fun _ => ?_)
      refine g_iconst (v := 0) K dX9_set_37 rfl ?_
      exact g_zret K E Er (0, mpasts, 2, mg, mpast) hw rfl rfl rfl (Nat.le_refl _) (Nat.le_refl _) dX9_set_38
    · replace hw := hw.1 hc
      refine g_iconst (v := 0) K dX9_set_18 rfl ?_
      refine g_goto (tgt := 27) K dX9_set_19 (by decide) ?_
      refine g_put (ty := .int) (ws' := [((A 0), .inr (10, [.ref (A 1), .ref (A 2), .ref (A 3), .ref (A 4), .int mhasKept, .ref (A 5), .int mpasts, .ref (A 6), .int mreports, .int 0, .ref (A 7), .ref (A 8), .ref (A 9), .int mordering, .int mdetail, .ref (A 10), .int mlength, .int mspot, .int mnumber, .ref (A 11), .int mtolds, .ref (A 12)])), ((A 1), .inl (cy 0, 672, .inl mg)), ((A 2), .inl (cy 0, 672, .inl mkept)), ((A 3), .inl (cy 0, 672, .inl mspare)), ((A 4), .inl (cy 0, 672, .inl mtrial)), ((A 5), .inl (cy 0, 5376, .inl mpast)), ((A 6), .inl (cy 0, 6, .inl mreport)), ((A 7), .inl (cy 0, 5, .inl mpart)), ((A 8), .inl (cy 0, 5, .inl mcome)), ((A 9), .inl (cy 0, 60, .inl morder)), ((A 10), .inl (cy 0, 80, .inl mtext)), ((A 11), .inl (cy 0, 200, .inl mtold)), ((A 12), .inl (cy 0, 672, .inl mahead))]) K (C := RX9) (T := TX9) (N := 22) 0 9 in_X9_set_X9 tyX9 tyX9_ok nmX9 (by decide +kernel) rfl rfl (by decide) rfl (by decide +kernel) rfl rfl (Nat.le_of_ble_eq_true rfl) rfl dX9_set_27 ?_
      refine g_aload_n K 0 dX9_set_30 rfl ?_
      refine g_get K (C := RX9) (T := TX9) (N := 22) 0 9 in_X9_set_X9 (by decide +kernel) rfl rfl (by decide) rfl dX9_set_31 ?_
      refine g_if_le (tgt := 39) K dX9_set_34 (by decide) (fun _ => ?_) (fun hc => absurd (by decide) hc)
      refine g_aload_n K 0 dX9_set_39 rfl ?_
      refine g_aload_n K 0 dX9_set_40 rfl ?_
      refine g_get K (C := RX9) (T := TX9) (N := 22) 0 0 in_X9_set_X9 (by decide +kernel) rfl rfl (by decide) rfl dX9_set_41 ?_
      refine g_callV (st' := fun u3 => []) (ws' := fun u3 => [((A 0), .inr (10, [.ref (A 1), .ref (A 2), .ref (A 3), .ref (A 4), .int mhasKept, .ref (A 5), .int u3.1, .ref (A 6), .int mreports, .int 0, .ref (A 7), .ref (A 8), .ref (A 9), .int mordering, .int mdetail, .ref (A 10), .int mlength, .int mspot, .int mnumber, .ref (A 11), .int mtolds, .ref (A 12)])), ((A 1), .inl (cy 0, 672, .inl mg)), ((A 2), .inl (cy 0, 672, .inl mkept)), ((A 3), .inl (cy 0, 672, .inl mspare)), ((A 4), .inl (cy 0, 672, .inl mtrial)), ((A 5), .inl (cy 0, 5376, .inl u3.2)), ((A 6), .inl (cy 0, 6, .inl mreport)), ((A 7), .inl (cy 0, 5, .inl mpart)), ((A 8), .inl (cy 0, 5, .inl mcome)), ((A 9), .inl (cy 0, 60, .inl morder)), ((A 10), .inl (cy 0, 80, .inl mtext)), ((A 11), .inl (cy 0, 200, .inl mtold)), ((A 12), .inl (cy 0, 672, .inl mahead))]) K hR [.ref (A 1)] [] 0 rfl rfl (c_X9_changes_o1 X.2.1 (gxD X) cy sd A mg mkept mspare mtrial mpast mreport mpart mcome morder mtext mtold mahead mhasKept mpasts mreports 0 mordering mdetail mlength mspot mnumber mtolds hw) gX9_set_X9_changes rfl yok_X9_changes rfl rfl (by decide) rfl (Nat.le_of_ble_eq_true rfl) dX9_set_44 [0, 1, 2, 3, 4, 5, 6, 7, 8, 9, 10, 11, 12] rfl (by decide) (fun _ => rfl) (fun _ => rfl) (fun _ => rfl) ⟨rfl, rfl⟩ (fun u3 hw => ?_)
      refine g_aload_n K 0 dX9_set_47 rfl ?_
      refine g_get K (C := RX9) (T := TX9) (N := 22) 0 0 in_X9_set_X9 (by decide +kernel) rfl rfl (by decide) rfl dX9_set_48 ?_
      refine g_bipush (v := 6) K dX9_set_51 rfl ?_
      refine g_iload_n K 1 dX9_set_53 rfl ?_
      refine g_iadd K dX9_set_54 ?_
      refine g_iald K 1 0 rfl rfl hw.1 dX9_set_55 ?_
      replace hw := hw.2
      refine g_topi (fun x4 ex4 => ?_)
      replace hw := hw x4 ex4
      refine g_istore_n (lv' := [(3, .int x4), (0, .ref (A 0)), (1, .int p0), (2, .int p1)]) K dX9_set_56 rfl (by rw [En]; decide) rfl ?_
      refine g_aload_n K 1 dX9_set_57 rfl ?_
      refine g_get K (C := RX9) (T := TX9) (N := 22) 0 0 in_X9_set_X9 (by decide +kernel) rfl rfl (by decide) rfl dX9_set_58 ?_
      refine g_bipush (v := 6) K dX9_set_61 rfl ?_
      refine g_iload_n K 2 dX9_set_63 rfl ?_
      refine g_iadd K dX9_set_64 ?_
      refine g_iload_n K 3 dX9_set_65 rfl ?_
      refine g_iast (ws' := [((A 0), .inr (10, [.ref (A 1), .ref (A 2), .ref (A 3), .ref (A 4), .int mhasKept, .ref (A 5), .int u3.1, .ref (A 6), .int mreports, .int 0, .ref (A 7), .ref (A 8), .ref (A 9), .int mordering, .int mdetail, .ref (A 10), .int mlength, .int mspot, .int mnumber, .ref (A 11), .int mtolds, .ref (A 12)])), ((A 1), .inl (cy 0, 672, .inl (upd mg (6 + p0).toNatClampNeg p1))), ((A 2), .inl (cy 0, 672, .inl mkept)), ((A 3), .inl (cy 0, 672, .inl mspare)), ((A 4), .inl (cy 0, 672, .inl mtrial)), ((A 5), .inl (cy 0, 5376, .inl u3.2)), ((A 6), .inl (cy 0, 6, .inl mreport)), ((A 7), .inl (cy 0, 5, .inl mpart)), ((A 8), .inl (cy 0, 5, .inl mcome)), ((A 9), .inl (cy 0, 60, .inl morder)), ((A 10), .inl (cy 0, 80, .inl mtext)), ((A 11), .inl (cy 0, 200, .inl mtold)), ((A 12), .inl (cy 0, 672, .inl mahead))]) K 1 0 rfl rfl hw.1 rfl dX9_set_66 ?_
      replace hw := hw.2
      refine g_iload_n K 0 dX9_set_67 rfl ?_
      exact g_zret K E Er (x4, u3.1, 0, upd mg (6 + p0).toNatClampNeg p1, u3.2) hw rfl rfl rfl (Nat.le_refl _) (Nat.le_refl _) dX9_set_68

def wp_X9_seed (mg : XRow) (mpast : XRow) (mpasts : Int32) (p0 : Int32) (post : (Int32 × Int32 × Int32 × XRow × XRow) → Prop) : Prop := wp_X9_changes_o1 mg mpast mpasts (fun u1 : Int32 × XRow => vp_in 1 672 ∧ (∀ x2 : Int32, x2 = mg ((1 : Int32).toNatClampNeg) → (vp_in 1 672 ∧ (post (x2, u1.1, 0, upd mg ((1 : Int32).toNatClampNeg) p0, u1.2)))))
theorem in_X9_seed_X9 : ∀ w ∈ u_ws RX9 TX9 22, w ∈ wsX9_seed := by decide +kernel
set_option maxRecDepth 100000 in
set_option maxHeartbeats 4000000 in
theorem c_X9_seed (l : Launch) (D : va_G) (cy : Nat → ClassId) (sd : xSd) (A : Nat → Nat) (mg : XRow) (mkept : XRow) (mspare : XRow) (mtrial : XRow) (mpast : XRow) (mreport : XRow) (mpart : XRow) (mcome : XRow) (morder : XRow) (mtext : XRow) (mtold : XRow) (mahead : XRow) (mhasKept : Int32) (mpasts : Int32) (mreports : Int32) (mthrown : Int32) (mordering : Int32) (mdetail : Int32) (mlength : Int32) (mspot : Int32) (mnumber : Int32) (mtolds : Int32) (p0 : Int32) {post : (Int32 × Int32 × Int32 × XRow × XRow) → Prop} (hw : wp_X9_seed mg mpast mpasts p0 post) : Ctr l D (xTys cy) sd yX9_seed wsX9_seed ({ frames := 2, cells := 0, slots := 0, locals := 46 } : Room) [.ref (A 0), .int p0] (fun u : Int32 × Int32 × Int32 × XRow × XRow => some (.int u.1)) [((A 0), .inr (10, [.ref (A 1), .ref (A 2), .ref (A 3), .ref (A 4), .int mhasKept, .ref (A 5), .int mpasts, .ref (A 6), .int mreports, .int mthrown, .ref (A 7), .ref (A 8), .ref (A 9), .int mordering, .int mdetail, .ref (A 10), .int mlength, .int mspot, .int mnumber, .ref (A 11), .int mtolds, .ref (A 12)])), ((A 1), .inl (cy 0, 672, .inl mg)), ((A 2), .inl (cy 0, 672, .inl mkept)), ((A 3), .inl (cy 0, 672, .inl mspare)), ((A 4), .inl (cy 0, 672, .inl mtrial)), ((A 5), .inl (cy 0, 5376, .inl mpast)), ((A 6), .inl (cy 0, 6, .inl mreport)), ((A 7), .inl (cy 0, 5, .inl mpart)), ((A 8), .inl (cy 0, 5, .inl mcome)), ((A 9), .inl (cy 0, 60, .inl morder)), ((A 10), .inl (cy 0, 80, .inl mtext)), ((A 11), .inl (cy 0, 200, .inl mtold)), ((A 12), .inl (cy 0, 672, .inl mahead))] (fun u => [((A 0), .inr (10, [.ref (A 1), .ref (A 2), .ref (A 3), .ref (A 4), .int mhasKept, .ref (A 5), .int u.2.1, .ref (A 6), .int mreports, .int u.2.2.1, .ref (A 7), .ref (A 8), .ref (A 9), .int mordering, .int mdetail, .ref (A 10), .int mlength, .int mspot, .int mnumber, .ref (A 11), .int mtolds, .ref (A 12)])), ((A 1), .inl (cy 0, 672, .inl u.2.2.2.1)), ((A 2), .inl (cy 0, 672, .inl mkept)), ((A 3), .inl (cy 0, 672, .inl mspare)), ((A 4), .inl (cy 0, 672, .inl mtrial)), ((A 5), .inl (cy 0, 5376, .inl u.2.2.2.2)), ((A 6), .inl (cy 0, 6, .inl mreport)), ((A 7), .inl (cy 0, 5, .inl mpart)), ((A 8), .inl (cy 0, 5, .inl mcome)), ((A 9), .inl (cy 0, 60, .inl morder)), ((A 10), .inl (cy 0, 80, .inl mtext)), ((A 11), .inl (cy 0, 200, .inl mtold)), ((A 12), .inl (cy 0, 672, .inl mahead))]) post := by
  refine Ctr.of (cc := cX9_seed) (maxL := 3) (ret := (some .int)) (lv0 := [(0, .ref (A 0)), (1, .int p0)]) (by decide) rfl (Nat.le_of_ble_eq_true rfl) rfl ?_
  intro X El hR Er Enm ED E En K
  have K : Cx X cX9_seed RX9 wsX9_seed (xTys cy) sd := K
  have E : X.2.2.2.2.2.2.2.2.2.2.1 = xMQ X (fun u : Int32 × Int32 × Int32 × XRow × XRow => some (.int u.1)) post (fun u => [((A 0), .inr (10, [.ref (A 1), .ref (A 2), .ref (A 3), .ref (A 4), .int mhasKept, .ref (A 5), .int u.2.1, .ref (A 6), .int mreports, .int u.2.2.1, .ref (A 7), .ref (A 8), .ref (A 9), .int mordering, .int mdetail, .ref (A 10), .int mlength, .int mspot, .int mnumber, .ref (A 11), .int mtolds, .ref (A 12)])), ((A 1), .inl (cy 0, 672, .inl u.2.2.2.1)), ((A 2), .inl (cy 0, 672, .inl mkept)), ((A 3), .inl (cy 0, 672, .inl mspare)), ((A 4), .inl (cy 0, 672, .inl mtrial)), ((A 5), .inl (cy 0, 5376, .inl u.2.2.2.2)), ((A 6), .inl (cy 0, 6, .inl mreport)), ((A 7), .inl (cy 0, 5, .inl mpart)), ((A 8), .inl (cy 0, 5, .inl mcome)), ((A 9), .inl (cy 0, 60, .inl morder)), ((A 10), .inl (cy 0, 80, .inl mtext)), ((A 11), .inl (cy 0, 200, .inl mtold)), ((A 12), .inl (cy 0, 672, .inl mahead))]) 0 0 := E
  unfold wp_X9_seed at hw
  refine g_aload_n K 0 dX9_seed_0 rfl ?_
  refine g_iconst (v := 0) K dX9_seed_1 rfl ?_
  refine g_put (ty := .int) (ws' := [((A 0), .inr (10, [.ref (A 1), .ref (A 2), .ref (A 3), .ref (A 4), .int mhasKept, .ref (A 5), .int mpasts, .ref (A 6), .int mreports, .int 0, .ref (A 7), .ref (A 8), .ref (A 9), .int mordering, .int mdetail, .ref (A 10), .int mlength, .int mspot, .int mnumber, .ref (A 11), .int mtolds, .ref (A 12)])), ((A 1), .inl (cy 0, 672, .inl mg)), ((A 2), .inl (cy 0, 672, .inl mkept)), ((A 3), .inl (cy 0, 672, .inl mspare)), ((A 4), .inl (cy 0, 672, .inl mtrial)), ((A 5), .inl (cy 0, 5376, .inl mpast)), ((A 6), .inl (cy 0, 6, .inl mreport)), ((A 7), .inl (cy 0, 5, .inl mpart)), ((A 8), .inl (cy 0, 5, .inl mcome)), ((A 9), .inl (cy 0, 60, .inl morder)), ((A 10), .inl (cy 0, 80, .inl mtext)), ((A 11), .inl (cy 0, 200, .inl mtold)), ((A 12), .inl (cy 0, 672, .inl mahead))]) K (C := RX9) (T := TX9) (N := 22) 0 9 in_X9_seed_X9 tyX9 tyX9_ok nmX9 (by decide +kernel) rfl rfl (by decide) rfl (by decide +kernel) rfl rfl (Nat.le_of_ble_eq_true rfl) rfl dX9_seed_2 ?_
  refine g_aload_n K 0 dX9_seed_5 rfl ?_
  refine g_aload_n K 0 dX9_seed_6 rfl ?_
  refine g_get K (C := RX9) (T := TX9) (N := 22) 0 0 in_X9_seed_X9 (by decide +kernel) rfl rfl (by decide) rfl dX9_seed_7 ?_
  refine g_callV (st' := fun u1 => []) (ws' := fun u1 => [((A 0), .inr (10, [.ref (A 1), .ref (A 2), .ref (A 3), .ref (A 4), .int mhasKept, .ref (A 5), .int u1.1, .ref (A 6), .int mreports, .int 0, .ref (A 7), .ref (A 8), .ref (A 9), .int mordering, .int mdetail, .ref (A 10), .int mlength, .int mspot, .int mnumber, .ref (A 11), .int mtolds, .ref (A 12)])), ((A 1), .inl (cy 0, 672, .inl mg)), ((A 2), .inl (cy 0, 672, .inl mkept)), ((A 3), .inl (cy 0, 672, .inl mspare)), ((A 4), .inl (cy 0, 672, .inl mtrial)), ((A 5), .inl (cy 0, 5376, .inl u1.2)), ((A 6), .inl (cy 0, 6, .inl mreport)), ((A 7), .inl (cy 0, 5, .inl mpart)), ((A 8), .inl (cy 0, 5, .inl mcome)), ((A 9), .inl (cy 0, 60, .inl morder)), ((A 10), .inl (cy 0, 80, .inl mtext)), ((A 11), .inl (cy 0, 200, .inl mtold)), ((A 12), .inl (cy 0, 672, .inl mahead))]) K hR [.ref (A 1)] [] 0 rfl rfl (c_X9_changes_o1 X.2.1 (gxD X) cy sd A mg mkept mspare mtrial mpast mreport mpart mcome morder mtext mtold mahead mhasKept mpasts mreports 0 mordering mdetail mlength mspot mnumber mtolds hw) gX9_seed_X9_changes rfl yok_X9_changes rfl rfl (by decide) rfl (Nat.le_of_ble_eq_true rfl) dX9_seed_10 [0, 1, 2, 3, 4, 5, 6, 7, 8, 9, 10, 11, 12] rfl (by decide) (fun _ => rfl) (fun _ => rfl) (fun _ => rfl) ⟨rfl, rfl⟩ (fun u1 hw => ?_)
  refine g_aload_n K 0 dX9_seed_13 rfl ?_
  refine g_get K (C := RX9) (T := TX9) (N := 22) 0 0 in_X9_seed_X9 (by decide +kernel) rfl rfl (by decide) rfl dX9_seed_14 ?_
  refine g_iconst (v := 1) K dX9_seed_17 rfl ?_
  refine g_iald K 1 0 rfl rfl hw.1 dX9_seed_18 ?_
  replace hw := hw.2
  refine g_topi (fun x2 ex2 => ?_)
  replace hw := hw x2 ex2
  refine g_istore_n (lv' := [(2, .int x2), (0, .ref (A 0)), (1, .int p0)]) K dX9_seed_19 rfl (by rw [En]; decide) rfl ?_
  refine g_aload_n K 1 dX9_seed_20 rfl ?_
  refine g_get K (C := RX9) (T := TX9) (N := 22) 0 0 in_X9_seed_X9 (by decide +kernel) rfl rfl (by decide) rfl dX9_seed_21 ?_
  refine g_iconst (v := 1) K dX9_seed_24 rfl ?_
  refine g_iload_n K 2 dX9_seed_25 rfl ?_
  refine g_iast (ws' := [((A 0), .inr (10, [.ref (A 1), .ref (A 2), .ref (A 3), .ref (A 4), .int mhasKept, .ref (A 5), .int u1.1, .ref (A 6), .int mreports, .int 0, .ref (A 7), .ref (A 8), .ref (A 9), .int mordering, .int mdetail, .ref (A 10), .int mlength, .int mspot, .int mnumber, .ref (A 11), .int mtolds, .ref (A 12)])), ((A 1), .inl (cy 0, 672, .inl (upd mg ((1 : Int32).toNatClampNeg) p0))), ((A 2), .inl (cy 0, 672, .inl mkept)), ((A 3), .inl (cy 0, 672, .inl mspare)), ((A 4), .inl (cy 0, 672, .inl mtrial)), ((A 5), .inl (cy 0, 5376, .inl u1.2)), ((A 6), .inl (cy 0, 6, .inl mreport)), ((A 7), .inl (cy 0, 5, .inl mpart)), ((A 8), .inl (cy 0, 5, .inl mcome)), ((A 9), .inl (cy 0, 60, .inl morder)), ((A 10), .inl (cy 0, 80, .inl mtext)), ((A 11), .inl (cy 0, 200, .inl mtold)), ((A 12), .inl (cy 0, 672, .inl mahead))]) K 1 0 rfl rfl hw.1 rfl dX9_seed_26 ?_
  replace hw := hw.2
  refine g_iload_n K 0 dX9_seed_27 rfl ?_
  exact g_zret K E Er (x2, u1.1, 0, upd mg ((1 : Int32).toNatClampNeg) p0, u1.2) hw rfl rfl rfl (Nat.le_refl _) (Nat.le_refl _) dX9_seed_28

def wp_X9_againstFeed (mg : XRow) (p0 : Int32) (p1 : Int32) (post : Int32 → Prop) : Prop := wp_X9_isMaterial p0 (fun u1 : Bool => (u1 = true → (wp_X9_in p1 1 999 (fun u2 : Bool => (u2 = true → (wp_X9_sum mg 11 (fun u3 : Int32 => ((u3 + p1) ≤ 9999 → (post 0)) ∧ (¬ (u3 + p1) ≤ 9999 → (post 3))))) ∧ (u2 = false → (post 2))))) ∧ (u1 = false → (post 1)))
set_option maxRecDepth 100000 in
set_option maxHeartbeats 4000000 in
theorem c_X9_againstFeed (l : Launch) (D : va_G) (cy : Nat → ClassId) (sd : xSd) (A : Nat → Nat) (mg : XRow) (mkept : XRow) (mspare : XRow) (mtrial : XRow) (mpast : XRow) (mreport : XRow) (mpart : XRow) (mcome : XRow) (morder : XRow) (mtext : XRow) (mtold : XRow) (mahead : XRow) (mhasKept : Int32) (mpasts : Int32) (mreports : Int32) (mthrown : Int32) (mordering : Int32) (mdetail : Int32) (mlength : Int32) (mspot : Int32) (mnumber : Int32) (mtolds : Int32) (p0 : Int32) (p1 : Int32) {post : Int32 → Prop} (hw : wp_X9_againstFeed mg p0 p1 post) : Ctr l D (xTys cy) sd yX9_againstFeed wsX9_againstFeed ({ frames := 2, cells := 0, slots := 0, locals := 42 } : Room) [.ref (A 0), .int p0, .int p1] (fun u : Int32 => some (.int u)) [((A 0), .inr (10, [.ref (A 1), .ref (A 2), .ref (A 3), .ref (A 4), .int mhasKept, .ref (A 5), .int mpasts, .ref (A 6), .int mreports, .int mthrown, .ref (A 7), .ref (A 8), .ref (A 9), .int mordering, .int mdetail, .ref (A 10), .int mlength, .int mspot, .int mnumber, .ref (A 11), .int mtolds, .ref (A 12)])), ((A 1), .inl (cy 0, 672, .inl mg)), ((A 2), .inl (cy 0, 672, .inl mkept)), ((A 3), .inl (cy 0, 672, .inl mspare)), ((A 4), .inl (cy 0, 672, .inl mtrial)), ((A 5), .inl (cy 0, 5376, .inl mpast)), ((A 6), .inl (cy 0, 6, .inl mreport)), ((A 7), .inl (cy 0, 5, .inl mpart)), ((A 8), .inl (cy 0, 5, .inl mcome)), ((A 9), .inl (cy 0, 60, .inl morder)), ((A 10), .inl (cy 0, 80, .inl mtext)), ((A 11), .inl (cy 0, 200, .inl mtold)), ((A 12), .inl (cy 0, 672, .inl mahead))] (fun _ => [((A 0), .inr (10, [.ref (A 1), .ref (A 2), .ref (A 3), .ref (A 4), .int mhasKept, .ref (A 5), .int mpasts, .ref (A 6), .int mreports, .int mthrown, .ref (A 7), .ref (A 8), .ref (A 9), .int mordering, .int mdetail, .ref (A 10), .int mlength, .int mspot, .int mnumber, .ref (A 11), .int mtolds, .ref (A 12)])), ((A 1), .inl (cy 0, 672, .inl mg)), ((A 2), .inl (cy 0, 672, .inl mkept)), ((A 3), .inl (cy 0, 672, .inl mspare)), ((A 4), .inl (cy 0, 672, .inl mtrial)), ((A 5), .inl (cy 0, 5376, .inl mpast)), ((A 6), .inl (cy 0, 6, .inl mreport)), ((A 7), .inl (cy 0, 5, .inl mpart)), ((A 8), .inl (cy 0, 5, .inl mcome)), ((A 9), .inl (cy 0, 60, .inl morder)), ((A 10), .inl (cy 0, 80, .inl mtext)), ((A 11), .inl (cy 0, 200, .inl mtold)), ((A 12), .inl (cy 0, 672, .inl mahead))]) post := by
  refine Ctr.of (cc := cX9_againstFeed) (maxL := 3) (ret := (some .int)) (lv0 := [(0, .ref (A 0)), (1, .int p0), (2, .int p1)]) (by decide) rfl (Nat.le_of_ble_eq_true rfl) rfl ?_
  intro X El hR Er Enm ED E En K
  have K : Cx X cX9_againstFeed RX9 wsX9_againstFeed (xTys cy) sd := K
  have E : X.2.2.2.2.2.2.2.2.2.2.1 = xMQ X (fun u : Int32 => some (.int u)) post (fun _ => [((A 0), .inr (10, [.ref (A 1), .ref (A 2), .ref (A 3), .ref (A 4), .int mhasKept, .ref (A 5), .int mpasts, .ref (A 6), .int mreports, .int mthrown, .ref (A 7), .ref (A 8), .ref (A 9), .int mordering, .int mdetail, .ref (A 10), .int mlength, .int mspot, .int mnumber, .ref (A 11), .int mtolds, .ref (A 12)])), ((A 1), .inl (cy 0, 672, .inl mg)), ((A 2), .inl (cy 0, 672, .inl mkept)), ((A 3), .inl (cy 0, 672, .inl mspare)), ((A 4), .inl (cy 0, 672, .inl mtrial)), ((A 5), .inl (cy 0, 5376, .inl mpast)), ((A 6), .inl (cy 0, 6, .inl mreport)), ((A 7), .inl (cy 0, 5, .inl mpart)), ((A 8), .inl (cy 0, 5, .inl mcome)), ((A 9), .inl (cy 0, 60, .inl morder)), ((A 10), .inl (cy 0, 80, .inl mtext)), ((A 11), .inl (cy 0, 200, .inl mtold)), ((A 12), .inl (cy 0, 672, .inl mahead))]) 0 0 := E
  unfold wp_X9_againstFeed at hw
  refine g_iload_n K 1 dX9_againstFeed_0 rfl ?_
  refine g_callSr (st' := fun u1 => [.int (bI u1)]) K hR [.int p0] [] (c_X9_isMaterial X.2.1 (gxD X) cy sd p0 hw) gX9_againstFeed_X9_isMaterial rfl yok_X9_isMaterial rfl (by decide) rfl (Nat.le_of_ble_eq_true rfl) dX9_againstFeed_1 [] rfl (by decide) (fun _ => rfl) ⟨rfl, rfl⟩ (fun u1 hw => ?_)
  refine g_ifb_ne (tgt := 11) K dX9_againstFeed_4 (by decide) (fun hc => ?_) (fun hc => ?_)
  · replace hw := hw.1 hc
    refine g_iload_n K 2 dX9_againstFeed_11 rfl ?_
    refine g_iconst (v := 1) K dX9_againstFeed_12 rfl ?_
    refine g_sipush (v := 999) K dX9_againstFeed_13 rfl ?_
    refine g_callSr (st' := fun u2 => [.int (bI u2)]) K hR [.int p1, .int 1, .int 999] [] (c_X9_in X.2.1 (gxD X) cy sd p1 1 999 hw) gX9_againstFeed_X9_in rfl yok_X9_in rfl (by decide) rfl (Nat.le_of_ble_eq_true rfl) dX9_againstFeed_16 [] rfl (by decide) (fun _ => rfl) ⟨rfl, rfl⟩ (fun u2 hw => ?_)
    refine g_ifb_ne (tgt := 26) K dX9_againstFeed_19 (by decide) (fun hc => ?_) (fun hc => ?_)
    · replace hw := hw.1 hc
      refine g_aload_n K 0 dX9_againstFeed_26 rfl ?_
      refine g_bipush (v := 11) K dX9_againstFeed_27 rfl ?_
      refine g_callVr (st' := fun u3 => [.int u3]) K hR [.int 11] [] 0 rfl rfl (c_X9_sum X.2.1 (gxD X) cy sd A mg mkept mspare mtrial mpast mreport mpart mcome morder mtext mtold mahead mhasKept mpasts mreports mthrown mordering mdetail mlength mspot mnumber mtolds 11 hw) gX9_againstFeed_X9_sum rfl yok_X9_sum rfl rfl (by decide) rfl (Nat.le_of_ble_eq_true rfl) dX9_againstFeed_29 [0, 1, 2, 3, 4, 5, 6, 7, 8, 9, 10, 11, 12] rfl (by decide) (fun _ => rfl) ⟨rfl, rfl⟩ (fun u3 hw => ?_)
      refine g_iload_n K 2 dX9_againstFeed_32 rfl ?_
      refine g_iadd K dX9_againstFeed_33 ?_
      refine g_sipush (v := 9999) K dX9_againstFeed_34 rfl ?_
      refine g_icmp_le (tgt := 44) K dX9_againstFeed_37 (by decide) (fun hc => ?_) (fun hc => ?_)
      · replace hw := hw.1 hc
        refine g_iconst (v := 0) K dX9_againstFeed_44 rfl ?_
        exact g_zret K E Er 0 hw rfl rfl rfl (Nat.le_refl _) (Nat.le_refl _) dX9_againstFeed_45
      · replace hw := hw.2 hc
        refine g_iconst (v := 3) K dX9_againstFeed_40 rfl ?_
        refine g_goto (tgt := 45) K dX9_againstFeed_41 (by decide) ?_
        exact g_zret K E Er 3 hw rfl rfl rfl (Nat.le_refl _) (Nat.le_refl _) dX9_againstFeed_45
    · replace hw := hw.2 hc
      refine g_iconst (v := 2) K dX9_againstFeed_22 rfl ?_
      refine g_goto (tgt := 45) K dX9_againstFeed_23 (by decide) ?_
      exact g_zret K E Er 2 hw rfl rfl rfl (Nat.le_refl _) (Nat.le_refl _) dX9_againstFeed_45
  · replace hw := hw.2 hc
    refine g_iconst (v := 1) K dX9_againstFeed_7 rfl ?_
    refine g_goto (tgt := 45) K dX9_againstFeed_8 (by decide) ?_
    exact g_zret K E Er 1 hw rfl rfl rfl (Nat.le_refl _) (Nat.le_refl _) dX9_againstFeed_45

def wp_X9_feeds (mg : XRow) (p0 : Int32) (p1 : Int32) (post : (Int32 × XRow) → Prop) : Prop := vp_in (11 + p0) 672 ∧ (vp_in (11 + p0) 672 ∧ (vp_in (21 + p0) 672 ∧ (vp_in (21 + p0) 672 ∧ (vp_in (11 + p0) 672 ∧ (post ((upd (upd mg (11 + p0).toNatClampNeg ((mg (11 + p0).toNatClampNeg) + p1)) (21 + p0).toNatClampNeg (((upd mg (11 + p0).toNatClampNeg ((mg (11 + p0).toNatClampNeg) + p1)) (21 + p0).toNatClampNeg) + p1)) (11 + p0).toNatClampNeg, upd (upd mg (11 + p0).toNatClampNeg ((mg (11 + p0).toNatClampNeg) + p1)) (21 + p0).toNatClampNeg (((upd mg (11 + p0).toNatClampNeg ((mg (11 + p0).toNatClampNeg) + p1)) (21 + p0).toNatClampNeg) + p1)))))))
theorem in_X9_feeds_X9 : ∀ w ∈ u_ws RX9 TX9 22, w ∈ wsX9_feeds := by decide +kernel
set_option maxRecDepth 100000 in
set_option maxHeartbeats 4000000 in
theorem c_X9_feeds (l : Launch) (D : va_G) (cy : Nat → ClassId) (sd : xSd) (A : Nat → Nat) (mg : XRow) (mkept : XRow) (mspare : XRow) (mtrial : XRow) (mpast : XRow) (mreport : XRow) (mpart : XRow) (mcome : XRow) (morder : XRow) (mtext : XRow) (mtold : XRow) (mahead : XRow) (mhasKept : Int32) (mpasts : Int32) (mreports : Int32) (mthrown : Int32) (mordering : Int32) (mdetail : Int32) (mlength : Int32) (mspot : Int32) (mnumber : Int32) (mtolds : Int32) (p0 : Int32) (p1 : Int32) {post : (Int32 × XRow) → Prop} (hw : wp_X9_feeds mg p0 p1 post) : Ctr l D (xTys cy) sd yX9_feeds wsX9_feeds ({ frames := 0, cells := 0, slots := 0, locals := 0 } : Room) [.ref (A 0), .int p0, .int p1] (fun u : Int32 × XRow => some (.int u.1)) [((A 0), .inr (10, [.ref (A 1), .ref (A 2), .ref (A 3), .ref (A 4), .int mhasKept, .ref (A 5), .int mpasts, .ref (A 6), .int mreports, .int mthrown, .ref (A 7), .ref (A 8), .ref (A 9), .int mordering, .int mdetail, .ref (A 10), .int mlength, .int mspot, .int mnumber, .ref (A 11), .int mtolds, .ref (A 12)])), ((A 1), .inl (cy 0, 672, .inl mg)), ((A 2), .inl (cy 0, 672, .inl mkept)), ((A 3), .inl (cy 0, 672, .inl mspare)), ((A 4), .inl (cy 0, 672, .inl mtrial)), ((A 5), .inl (cy 0, 5376, .inl mpast)), ((A 6), .inl (cy 0, 6, .inl mreport)), ((A 7), .inl (cy 0, 5, .inl mpart)), ((A 8), .inl (cy 0, 5, .inl mcome)), ((A 9), .inl (cy 0, 60, .inl morder)), ((A 10), .inl (cy 0, 80, .inl mtext)), ((A 11), .inl (cy 0, 200, .inl mtold)), ((A 12), .inl (cy 0, 672, .inl mahead))] (fun u => [((A 0), .inr (10, [.ref (A 1), .ref (A 2), .ref (A 3), .ref (A 4), .int mhasKept, .ref (A 5), .int mpasts, .ref (A 6), .int mreports, .int mthrown, .ref (A 7), .ref (A 8), .ref (A 9), .int mordering, .int mdetail, .ref (A 10), .int mlength, .int mspot, .int mnumber, .ref (A 11), .int mtolds, .ref (A 12)])), ((A 1), .inl (cy 0, 672, .inl u.2)), ((A 2), .inl (cy 0, 672, .inl mkept)), ((A 3), .inl (cy 0, 672, .inl mspare)), ((A 4), .inl (cy 0, 672, .inl mtrial)), ((A 5), .inl (cy 0, 5376, .inl mpast)), ((A 6), .inl (cy 0, 6, .inl mreport)), ((A 7), .inl (cy 0, 5, .inl mpart)), ((A 8), .inl (cy 0, 5, .inl mcome)), ((A 9), .inl (cy 0, 60, .inl morder)), ((A 10), .inl (cy 0, 80, .inl mtext)), ((A 11), .inl (cy 0, 200, .inl mtold)), ((A 12), .inl (cy 0, 672, .inl mahead))]) post := by
  refine Ctr.of (cc := cX9_feeds) (maxL := 3) (ret := (some .int)) (lv0 := [(0, .ref (A 0)), (1, .int p0), (2, .int p1)]) (by decide) rfl (Nat.le_of_ble_eq_true rfl) rfl ?_
  intro X El hR Er Enm ED E En K
  have K : Cx X cX9_feeds RX9 wsX9_feeds (xTys cy) sd := K
  have E : X.2.2.2.2.2.2.2.2.2.2.1 = xMQ X (fun u : Int32 × XRow => some (.int u.1)) post (fun u => [((A 0), .inr (10, [.ref (A 1), .ref (A 2), .ref (A 3), .ref (A 4), .int mhasKept, .ref (A 5), .int mpasts, .ref (A 6), .int mreports, .int mthrown, .ref (A 7), .ref (A 8), .ref (A 9), .int mordering, .int mdetail, .ref (A 10), .int mlength, .int mspot, .int mnumber, .ref (A 11), .int mtolds, .ref (A 12)])), ((A 1), .inl (cy 0, 672, .inl u.2)), ((A 2), .inl (cy 0, 672, .inl mkept)), ((A 3), .inl (cy 0, 672, .inl mspare)), ((A 4), .inl (cy 0, 672, .inl mtrial)), ((A 5), .inl (cy 0, 5376, .inl mpast)), ((A 6), .inl (cy 0, 6, .inl mreport)), ((A 7), .inl (cy 0, 5, .inl mpart)), ((A 8), .inl (cy 0, 5, .inl mcome)), ((A 9), .inl (cy 0, 60, .inl morder)), ((A 10), .inl (cy 0, 80, .inl mtext)), ((A 11), .inl (cy 0, 200, .inl mtold)), ((A 12), .inl (cy 0, 672, .inl mahead))]) 0 0 := E
  unfold wp_X9_feeds at hw
  refine g_aload_n K 0 dX9_feeds_0 rfl ?_
  refine g_get K (C := RX9) (T := TX9) (N := 22) 0 0 in_X9_feeds_X9 (by decide +kernel) rfl rfl (by decide) rfl dX9_feeds_1 ?_
  refine g_bipush (v := 11) K dX9_feeds_4 rfl ?_
  refine g_iload_n K 1 dX9_feeds_6 rfl ?_
  refine g_iadd K dX9_feeds_7 ?_
  refine g_dup2_11 K dX9_feeds_8 rfl rfl ?_
  refine g_iald K 1 0 rfl rfl hw.1 dX9_feeds_9 ?_
  replace hw := hw.2
  refine g_iload_n K 2 dX9_feeds_10 rfl ?_
  refine g_iadd K dX9_feeds_11 ?_
  refine g_iast (ws' := [((A 0), .inr (10, [.ref (A 1), .ref (A 2), .ref (A 3), .ref (A 4), .int mhasKept, .ref (A 5), .int mpasts, .ref (A 6), .int mreports, .int mthrown, .ref (A 7), .ref (A 8), .ref (A 9), .int mordering, .int mdetail, .ref (A 10), .int mlength, .int mspot, .int mnumber, .ref (A 11), .int mtolds, .ref (A 12)])), ((A 1), .inl (cy 0, 672, .inl (upd mg (11 + p0).toNatClampNeg ((mg (11 + p0).toNatClampNeg) + p1)))), ((A 2), .inl (cy 0, 672, .inl mkept)), ((A 3), .inl (cy 0, 672, .inl mspare)), ((A 4), .inl (cy 0, 672, .inl mtrial)), ((A 5), .inl (cy 0, 5376, .inl mpast)), ((A 6), .inl (cy 0, 6, .inl mreport)), ((A 7), .inl (cy 0, 5, .inl mpart)), ((A 8), .inl (cy 0, 5, .inl mcome)), ((A 9), .inl (cy 0, 60, .inl morder)), ((A 10), .inl (cy 0, 80, .inl mtext)), ((A 11), .inl (cy 0, 200, .inl mtold)), ((A 12), .inl (cy 0, 672, .inl mahead))]) K 1 0 rfl rfl hw.1 rfl dX9_feeds_12 ?_
  replace hw := hw.2
  refine g_aload_n K 0 dX9_feeds_13 rfl ?_
  refine g_get K (C := RX9) (T := TX9) (N := 22) 0 0 in_X9_feeds_X9 (by decide +kernel) rfl rfl (by decide) rfl dX9_feeds_14 ?_
  refine g_bipush (v := 21) K dX9_feeds_17 rfl ?_
  refine g_iload_n K 1 dX9_feeds_19 rfl ?_
  refine g_iadd K dX9_feeds_20 ?_
  refine g_dup2_11 K dX9_feeds_21 rfl rfl ?_
  refine g_iald K 1 0 rfl rfl hw.1 dX9_feeds_22 ?_
  replace hw := hw.2
  refine g_iload_n K 2 dX9_feeds_23 rfl ?_
  refine g_iadd K dX9_feeds_24 ?_
  refine g_iast (ws' := [((A 0), .inr (10, [.ref (A 1), .ref (A 2), .ref (A 3), .ref (A 4), .int mhasKept, .ref (A 5), .int mpasts, .ref (A 6), .int mreports, .int mthrown, .ref (A 7), .ref (A 8), .ref (A 9), .int mordering, .int mdetail, .ref (A 10), .int mlength, .int mspot, .int mnumber, .ref (A 11), .int mtolds, .ref (A 12)])), ((A 1), .inl (cy 0, 672, .inl (upd (upd mg (11 + p0).toNatClampNeg ((mg (11 + p0).toNatClampNeg) + p1)) (21 + p0).toNatClampNeg (((upd mg (11 + p0).toNatClampNeg ((mg (11 + p0).toNatClampNeg) + p1)) (21 + p0).toNatClampNeg) + p1)))), ((A 2), .inl (cy 0, 672, .inl mkept)), ((A 3), .inl (cy 0, 672, .inl mspare)), ((A 4), .inl (cy 0, 672, .inl mtrial)), ((A 5), .inl (cy 0, 5376, .inl mpast)), ((A 6), .inl (cy 0, 6, .inl mreport)), ((A 7), .inl (cy 0, 5, .inl mpart)), ((A 8), .inl (cy 0, 5, .inl mcome)), ((A 9), .inl (cy 0, 60, .inl morder)), ((A 10), .inl (cy 0, 80, .inl mtext)), ((A 11), .inl (cy 0, 200, .inl mtold)), ((A 12), .inl (cy 0, 672, .inl mahead))]) K 1 0 rfl rfl hw.1 rfl dX9_feeds_25 ?_
  replace hw := hw.2
  refine g_aload_n K 0 dX9_feeds_26 rfl ?_
  refine g_get K (C := RX9) (T := TX9) (N := 22) 0 0 in_X9_feeds_X9 (by decide +kernel) rfl rfl (by decide) rfl dX9_feeds_27 ?_
  refine g_bipush (v := 11) K dX9_feeds_30 rfl ?_
  refine g_iload_n K 1 dX9_feeds_32 rfl ?_
  refine g_iadd K dX9_feeds_33 ?_
  refine g_iald K 1 0 rfl rfl hw.1 dX9_feeds_34 ?_
  replace hw := hw.2
  exact g_zret K E Er ((upd (upd mg (11 + p0).toNatClampNeg ((mg (11 + p0).toNatClampNeg) + p1)) (21 + p0).toNatClampNeg (((upd mg (11 + p0).toNatClampNeg ((mg (11 + p0).toNatClampNeg) + p1)) (21 + p0).toNatClampNeg) + p1)) (11 + p0).toNatClampNeg, upd (upd mg (11 + p0).toNatClampNeg ((mg (11 + p0).toNatClampNeg) + p1)) (21 + p0).toNatClampNeg (((upd mg (11 + p0).toNatClampNeg ((mg (11 + p0).toNatClampNeg) + p1)) (21 + p0).toNatClampNeg) + p1)) hw rfl rfl rfl (Nat.le_refl _) (Nat.le_refl _) dX9_feeds_35

def wp_X9_feed (mg : XRow) (mpast : XRow) (mpasts : Int32) (p0 : Int32) (p1 : Int32) (post : (Int32 × Int32 × Int32 × XRow × XRow) → Prop) : Prop := wp_X9_againstFeed mg p0 p1 (fun u1 : Int32 => (u1 ≤ 0 → (wp_X9_changes_o1 mg mpast mpasts (fun u2 : Int32 × XRow => wp_X9_feeds mg p0 p1 (fun u3 : Int32 × XRow => post (u3.1, u2.1, u1, u3.2, u2.2))))) ∧ (¬ u1 ≤ 0 → (post (0, mpasts, u1, mg, mpast))))
theorem in_X9_feed_X9 : ∀ w ∈ u_ws RX9 TX9 22, w ∈ wsX9_feed := by decide +kernel
set_option maxRecDepth 100000 in
set_option maxHeartbeats 4000000 in
theorem c_X9_feed (l : Launch) (D : va_G) (cy : Nat → ClassId) (sd : xSd) (A : Nat → Nat) (mg : XRow) (mkept : XRow) (mspare : XRow) (mtrial : XRow) (mpast : XRow) (mreport : XRow) (mpart : XRow) (mcome : XRow) (morder : XRow) (mtext : XRow) (mtold : XRow) (mahead : XRow) (mhasKept : Int32) (mpasts : Int32) (mreports : Int32) (mthrown : Int32) (mordering : Int32) (mdetail : Int32) (mlength : Int32) (mspot : Int32) (mnumber : Int32) (mtolds : Int32) (p0 : Int32) (p1 : Int32) {post : (Int32 × Int32 × Int32 × XRow × XRow) → Prop} (hw : wp_X9_feed mg mpast mpasts p0 p1 post) : Ctr l D (xTys cy) sd yX9_feed wsX9_feed ({ frames := 3, cells := 0, slots := 0, locals := 64 } : Room) [.ref (A 0), .int p0, .int p1] (fun u : Int32 × Int32 × Int32 × XRow × XRow => some (.int u.1)) [((A 0), .inr (10, [.ref (A 1), .ref (A 2), .ref (A 3), .ref (A 4), .int mhasKept, .ref (A 5), .int mpasts, .ref (A 6), .int mreports, .int mthrown, .ref (A 7), .ref (A 8), .ref (A 9), .int mordering, .int mdetail, .ref (A 10), .int mlength, .int mspot, .int mnumber, .ref (A 11), .int mtolds, .ref (A 12)])), ((A 1), .inl (cy 0, 672, .inl mg)), ((A 2), .inl (cy 0, 672, .inl mkept)), ((A 3), .inl (cy 0, 672, .inl mspare)), ((A 4), .inl (cy 0, 672, .inl mtrial)), ((A 5), .inl (cy 0, 5376, .inl mpast)), ((A 6), .inl (cy 0, 6, .inl mreport)), ((A 7), .inl (cy 0, 5, .inl mpart)), ((A 8), .inl (cy 0, 5, .inl mcome)), ((A 9), .inl (cy 0, 60, .inl morder)), ((A 10), .inl (cy 0, 80, .inl mtext)), ((A 11), .inl (cy 0, 200, .inl mtold)), ((A 12), .inl (cy 0, 672, .inl mahead))] (fun u => [((A 0), .inr (10, [.ref (A 1), .ref (A 2), .ref (A 3), .ref (A 4), .int mhasKept, .ref (A 5), .int u.2.1, .ref (A 6), .int mreports, .int u.2.2.1, .ref (A 7), .ref (A 8), .ref (A 9), .int mordering, .int mdetail, .ref (A 10), .int mlength, .int mspot, .int mnumber, .ref (A 11), .int mtolds, .ref (A 12)])), ((A 1), .inl (cy 0, 672, .inl u.2.2.2.1)), ((A 2), .inl (cy 0, 672, .inl mkept)), ((A 3), .inl (cy 0, 672, .inl mspare)), ((A 4), .inl (cy 0, 672, .inl mtrial)), ((A 5), .inl (cy 0, 5376, .inl u.2.2.2.2)), ((A 6), .inl (cy 0, 6, .inl mreport)), ((A 7), .inl (cy 0, 5, .inl mpart)), ((A 8), .inl (cy 0, 5, .inl mcome)), ((A 9), .inl (cy 0, 60, .inl morder)), ((A 10), .inl (cy 0, 80, .inl mtext)), ((A 11), .inl (cy 0, 200, .inl mtold)), ((A 12), .inl (cy 0, 672, .inl mahead))]) post := by
  refine Ctr.of (cc := cX9_feed) (maxL := 3) (ret := (some .int)) (lv0 := [(0, .ref (A 0)), (1, .int p0), (2, .int p1)]) (by decide) rfl (Nat.le_of_ble_eq_true rfl) rfl ?_
  intro X El hR Er Enm ED E En K
  have K : Cx X cX9_feed RX9 wsX9_feed (xTys cy) sd := K
  have E : X.2.2.2.2.2.2.2.2.2.2.1 = xMQ X (fun u : Int32 × Int32 × Int32 × XRow × XRow => some (.int u.1)) post (fun u => [((A 0), .inr (10, [.ref (A 1), .ref (A 2), .ref (A 3), .ref (A 4), .int mhasKept, .ref (A 5), .int u.2.1, .ref (A 6), .int mreports, .int u.2.2.1, .ref (A 7), .ref (A 8), .ref (A 9), .int mordering, .int mdetail, .ref (A 10), .int mlength, .int mspot, .int mnumber, .ref (A 11), .int mtolds, .ref (A 12)])), ((A 1), .inl (cy 0, 672, .inl u.2.2.2.1)), ((A 2), .inl (cy 0, 672, .inl mkept)), ((A 3), .inl (cy 0, 672, .inl mspare)), ((A 4), .inl (cy 0, 672, .inl mtrial)), ((A 5), .inl (cy 0, 5376, .inl u.2.2.2.2)), ((A 6), .inl (cy 0, 6, .inl mreport)), ((A 7), .inl (cy 0, 5, .inl mpart)), ((A 8), .inl (cy 0, 5, .inl mcome)), ((A 9), .inl (cy 0, 60, .inl morder)), ((A 10), .inl (cy 0, 80, .inl mtext)), ((A 11), .inl (cy 0, 200, .inl mtold)), ((A 12), .inl (cy 0, 672, .inl mahead))]) 0 0 := E
  unfold wp_X9_feed at hw
  refine g_aload_n K 0 dX9_feed_0 rfl ?_
  refine g_aload_n K 0 dX9_feed_1 rfl ?_
  refine g_iload_n K 1 dX9_feed_2 rfl ?_
  refine g_iload_n K 2 dX9_feed_3 rfl ?_
  refine g_callVr (st' := fun u1 => [.int u1, .ref (A 0)]) K hR [.int p0, .int p1] [.ref (A 0)] 0 rfl rfl (c_X9_againstFeed X.2.1 (gxD X) cy sd A mg mkept mspare mtrial mpast mreport mpart mcome morder mtext mtold mahead mhasKept mpasts mreports mthrown mordering mdetail mlength mspot mnumber mtolds p0 p1 hw) gX9_feed_X9_againstFeed rfl yok_X9_againstFeed rfl rfl (by decide) rfl (Nat.le_of_ble_eq_true rfl) dX9_feed_4 [0, 1, 2, 3, 4, 5, 6, 7, 8, 9, 10, 11, 12] rfl (by decide) (fun _ => rfl) ⟨rfl, rfl⟩ (fun u1 hw => ?_)
  refine g_put (ty := .int) (ws' := [((A 0), .inr (10, [.ref (A 1), .ref (A 2), .ref (A 3), .ref (A 4), .int mhasKept, .ref (A 5), .int mpasts, .ref (A 6), .int mreports, .int u1, .ref (A 7), .ref (A 8), .ref (A 9), .int mordering, .int mdetail, .ref (A 10), .int mlength, .int mspot, .int mnumber, .ref (A 11), .int mtolds, .ref (A 12)])), ((A 1), .inl (cy 0, 672, .inl mg)), ((A 2), .inl (cy 0, 672, .inl mkept)), ((A 3), .inl (cy 0, 672, .inl mspare)), ((A 4), .inl (cy 0, 672, .inl mtrial)), ((A 5), .inl (cy 0, 5376, .inl mpast)), ((A 6), .inl (cy 0, 6, .inl mreport)), ((A 7), .inl (cy 0, 5, .inl mpart)), ((A 8), .inl (cy 0, 5, .inl mcome)), ((A 9), .inl (cy 0, 60, .inl morder)), ((A 10), .inl (cy 0, 80, .inl mtext)), ((A 11), .inl (cy 0, 200, .inl mtold)), ((A 12), .inl (cy 0, 672, .inl mahead))]) K (C := RX9) (T := TX9) (N := 22) 0 9 in_X9_feed_X9 tyX9 tyX9_ok nmX9 (by decide +kernel) rfl rfl (by decide) rfl (by decide +kernel) rfl rfl (Nat.le_of_ble_eq_true rfl) rfl dX9_feed_7 ?_
  refine g_aload_n K 0 dX9_feed_10 rfl ?_
  refine g_get K (C := RX9) (T := TX9) (N := 22) 0 9 in_X9_feed_X9 (by decide +kernel) rfl rfl (by decide) rfl dX9_feed_11 ?_
  refine g_if_le (tgt := 19) K dX9_feed_14 (by decide) (fun hc => ?_) (fun hc => ?_)
  · replace hw := hw.1 hc
    refine g_aload_n K 0 dX9_feed_19 rfl ?_
    refine g_aload_n K 0 dX9_feed_20 rfl ?_
    refine g_get K (C := RX9) (T := TX9) (N := 22) 0 0 in_X9_feed_X9 (by decide +kernel) rfl rfl (by decide) rfl dX9_feed_21 ?_
    refine g_callV (st' := fun u2 => []) (ws' := fun u2 => [((A 0), .inr (10, [.ref (A 1), .ref (A 2), .ref (A 3), .ref (A 4), .int mhasKept, .ref (A 5), .int u2.1, .ref (A 6), .int mreports, .int u1, .ref (A 7), .ref (A 8), .ref (A 9), .int mordering, .int mdetail, .ref (A 10), .int mlength, .int mspot, .int mnumber, .ref (A 11), .int mtolds, .ref (A 12)])), ((A 1), .inl (cy 0, 672, .inl mg)), ((A 2), .inl (cy 0, 672, .inl mkept)), ((A 3), .inl (cy 0, 672, .inl mspare)), ((A 4), .inl (cy 0, 672, .inl mtrial)), ((A 5), .inl (cy 0, 5376, .inl u2.2)), ((A 6), .inl (cy 0, 6, .inl mreport)), ((A 7), .inl (cy 0, 5, .inl mpart)), ((A 8), .inl (cy 0, 5, .inl mcome)), ((A 9), .inl (cy 0, 60, .inl morder)), ((A 10), .inl (cy 0, 80, .inl mtext)), ((A 11), .inl (cy 0, 200, .inl mtold)), ((A 12), .inl (cy 0, 672, .inl mahead))]) K hR [.ref (A 1)] [] 0 rfl rfl (c_X9_changes_o1 X.2.1 (gxD X) cy sd A mg mkept mspare mtrial mpast mreport mpart mcome morder mtext mtold mahead mhasKept mpasts mreports u1 mordering mdetail mlength mspot mnumber mtolds hw) gX9_feed_X9_changes rfl yok_X9_changes rfl rfl (by decide) rfl (Nat.le_of_ble_eq_true rfl) dX9_feed_24 [0, 1, 2, 3, 4, 5, 6, 7, 8, 9, 10, 11, 12] rfl (by decide) (fun _ => rfl) (fun _ => rfl) (fun _ => rfl) ⟨rfl, rfl⟩ (fun u2 hw => ?_)
    refine g_aload_n K 0 dX9_feed_27 rfl ?_
    refine g_iload_n K 1 dX9_feed_28 rfl ?_
    refine g_iload_n K 2 dX9_feed_29 rfl ?_
    refine g_callV (st' := fun u3 => [.int u3.1]) (ws' := fun u3 => [((A 0), .inr (10, [.ref (A 1), .ref (A 2), .ref (A 3), .ref (A 4), .int mhasKept, .ref (A 5), .int u2.1, .ref (A 6), .int mreports, .int u1, .ref (A 7), .ref (A 8), .ref (A 9), .int mordering, .int mdetail, .ref (A 10), .int mlength, .int mspot, .int mnumber, .ref (A 11), .int mtolds, .ref (A 12)])), ((A 1), .inl (cy 0, 672, .inl u3.2)), ((A 2), .inl (cy 0, 672, .inl mkept)), ((A 3), .inl (cy 0, 672, .inl mspare)), ((A 4), .inl (cy 0, 672, .inl mtrial)), ((A 5), .inl (cy 0, 5376, .inl u2.2)), ((A 6), .inl (cy 0, 6, .inl mreport)), ((A 7), .inl (cy 0, 5, .inl mpart)), ((A 8), .inl (cy 0, 5, .inl mcome)), ((A 9), .inl (cy 0, 60, .inl morder)), ((A 10), .inl (cy 0, 80, .inl mtext)), ((A 11), .inl (cy 0, 200, .inl mtold)), ((A 12), .inl (cy 0, 672, .inl mahead))]) K hR [.int p0, .int p1] [] 0 rfl rfl (c_X9_feeds X.2.1 (gxD X) cy sd A mg mkept mspare mtrial u2.2 mreport mpart mcome morder mtext mtold mahead mhasKept u2.1 mreports u1 mordering mdetail mlength mspot mnumber mtolds p0 p1 hw) gX9_feed_X9_feeds rfl yok_X9_feeds rfl rfl (by decide) rfl (Nat.le_of_ble_eq_true rfl) dX9_feed_30 [0, 1, 2, 3, 4, 5, 6, 7, 8, 9, 10, 11, 12] rfl (by decide) (fun _ => rfl) (fun _ => rfl) (fun _ => rfl) ⟨rfl, rfl⟩ (fun u3 hw => ?_)
    exact g_zret K E Er (u3.1, u2.1, u1, u3.2, u2.2) hw rfl rfl rfl (Nat.le_refl _) (Nat.le_refl _) dX9_feed_33
  · replace hw := hw.2 hc
    refine g_iconst (v := 0) K dX9_feed_17 rfl ?_
    exact g_zret K E Er (0, mpasts, u1, mg, mpast) hw rfl rfl rfl (Nat.le_refl _) (Nat.le_refl _) dX9_feed_18
