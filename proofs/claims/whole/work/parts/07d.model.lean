theorem yok_X9_append : yOk yX9_append 1 := by decide +kernel
theorem yok_X9_here : yOk yX9_here 0 := by decide +kernel
theorem yok_X9_skips : yOk yX9_skips 1 := by decide +kernel
theorem yok_X9_numberHere : yOk yX9_numberHere 1 := by decide +kernel
theorem yok_X9_puts : yOk yX9_puts 2 := by decide +kernel
theorem yok_X9_command : yOk yX9_command 0 := by decide +kernel
theorem yok_X9_isText : yOk yX9_isText 0 := by decide +kernel
theorem yok_X9_does : yOk yX9_does 1 := by decide +kernel
theorem yok_X9_perform : yOk yX9_perform 0 := by decide +kernel
def wp_X9_append (mtext : XRow) (mlength : Int32) (p0 : Int32) (post : (Int32 × Int32 × Int32 × XRow) → Prop) : Prop := (mlength = 80 → (post (0, 1, mlength, mtext))) ∧ (¬ mlength = 80 → (vp_in mlength 80 ∧ (∀ x1 : Int32, x1 = mlength + 1 → (post (x1, 0, x1, upd mtext (mlength).toNatClampNeg p0)))))
theorem in_X9_append_X9 : ∀ w ∈ u_ws RX9 TX9 22, w ∈ wsX9_append := by decide +kernel
set_option maxRecDepth 100000 in
set_option maxHeartbeats 4000000 in
theorem c_X9_append (l : Launch) (D : va_G) (cy : Nat → ClassId) (sd : xSd) (A : Nat → Nat) (mg : XRow) (mkept : XRow) (mspare : XRow) (mtrial : XRow) (mpast : XRow) (mreport : XRow) (mpart : XRow) (mcome : XRow) (morder : XRow) (mtext : XRow) (mtold : XRow) (mahead : XRow) (mhasKept : Int32) (mpasts : Int32) (mreports : Int32) (mthrown : Int32) (mordering : Int32) (mdetail : Int32) (mlength : Int32) (mspot : Int32) (mnumber : Int32) (mtolds : Int32) (p0 : Int32) {post : (Int32 × Int32 × Int32 × XRow) → Prop} (hw : wp_X9_append mtext mlength p0 post) : Ctr l D (xTys cy) sd yX9_append wsX9_append ({ frames := 0, cells := 0, slots := 0, locals := 0 } : Room) [.ref (A 0), .int p0] (fun u : Int32 × Int32 × Int32 × XRow => some (.int u.1)) [((A 0), .inr (10, [.ref (A 1), .ref (A 2), .ref (A 3), .ref (A 4), .int mhasKept, .ref (A 5), .int mpasts, .ref (A 6), .int mreports, .int mthrown, .ref (A 7), .ref (A 8), .ref (A 9), .int mordering, .int mdetail, .ref (A 10), .int mlength, .int mspot, .int mnumber, .ref (A 11), .int mtolds, .ref (A 12)])), ((A 1), .inl (cy 0, 672, .inl mg)), ((A 2), .inl (cy 0, 672, .inl mkept)), ((A 3), .inl (cy 0, 672, .inl mspare)), ((A 4), .inl (cy 0, 672, .inl mtrial)), ((A 5), .inl (cy 0, 5376, .inl mpast)), ((A 6), .inl (cy 0, 6, .inl mreport)), ((A 7), .inl (cy 0, 5, .inl mpart)), ((A 8), .inl (cy 0, 5, .inl mcome)), ((A 9), .inl (cy 0, 60, .inl morder)), ((A 10), .inl (cy 0, 80, .inl mtext)), ((A 11), .inl (cy 0, 200, .inl mtold)), ((A 12), .inl (cy 0, 672, .inl mahead))] (fun u => [((A 0), .inr (10, [.ref (A 1), .ref (A 2), .ref (A 3), .ref (A 4), .int mhasKept, .ref (A 5), .int mpasts, .ref (A 6), .int mreports, .int u.2.1, .ref (A 7), .ref (A 8), .ref (A 9), .int mordering, .int mdetail, .ref (A 10), .int u.2.2.1, .int mspot, .int mnumber, .ref (A 11), .int mtolds, .ref (A 12)])), ((A 1), .inl (cy 0, 672, .inl mg)), ((A 2), .inl (cy 0, 672, .inl mkept)), ((A 3), .inl (cy 0, 672, .inl mspare)), ((A 4), .inl (cy 0, 672, .inl mtrial)), ((A 5), .inl (cy 0, 5376, .inl mpast)), ((A 6), .inl (cy 0, 6, .inl mreport)), ((A 7), .inl (cy 0, 5, .inl mpart)), ((A 8), .inl (cy 0, 5, .inl mcome)), ((A 9), .inl (cy 0, 60, .inl morder)), ((A 10), .inl (cy 0, 80, .inl u.2.2.2)), ((A 11), .inl (cy 0, 200, .inl mtold)), ((A 12), .inl (cy 0, 672, .inl mahead))]) post := by
  refine Ctr.of (cc := cX9_append) (maxL := 2) (ret := (some .int)) (lv0 := [(0, .ref (A 0)), (1, .int p0)]) (by decide) rfl (Nat.le_of_ble_eq_true rfl) rfl ?_
  intro X El hR Er Enm ED E En K
  have K : Cx X cX9_append RX9 wsX9_append (xTys cy) sd := K
  have E : X.2.2.2.2.2.2.2.2.2.2.1 = xMQ X (fun u : Int32 × Int32 × Int32 × XRow => some (.int u.1)) post (fun u => [((A 0), .inr (10, [.ref (A 1), .ref (A 2), .ref (A 3), .ref (A 4), .int mhasKept, .ref (A 5), .int mpasts, .ref (A 6), .int mreports, .int u.2.1, .ref (A 7), .ref (A 8), .ref (A 9), .int mordering, .int mdetail, .ref (A 10), .int u.2.2.1, .int mspot, .int mnumber, .ref (A 11), .int mtolds, .ref (A 12)])), ((A 1), .inl (cy 0, 672, .inl mg)), ((A 2), .inl (cy 0, 672, .inl mkept)), ((A 3), .inl (cy 0, 672, .inl mspare)), ((A 4), .inl (cy 0, 672, .inl mtrial)), ((A 5), .inl (cy 0, 5376, .inl mpast)), ((A 6), .inl (cy 0, 6, .inl mreport)), ((A 7), .inl (cy 0, 5, .inl mpart)), ((A 8), .inl (cy 0, 5, .inl mcome)), ((A 9), .inl (cy 0, 60, .inl morder)), ((A 10), .inl (cy 0, 80, .inl u.2.2.2)), ((A 11), .inl (cy 0, 200, .inl mtold)), ((A 12), .inl (cy 0, 672, .inl mahead))]) 0 0 := E
  unfold wp_X9_append at hw
  refine g_aload_n K 0 dX9_append_0 rfl ?_
  refine g_aload_n K 0 dX9_append_1 rfl ?_
  refine g_get K (C := RX9) (T := TX9) (N := 22) 0 16 in_X9_append_X9 (by decide +kernel) rfl rfl (by decide) rfl dX9_append_2 ?_
  refine g_bipush (v := 80) K dX9_append_5 rfl ?_
  refine g_icmp_ne (tgt := 14) K dX9_append_7 (by decide) (fun hc => ?_) (fun hc => ?_)
  · replace hw := hw.2 hc
    refine g_iconst (v := 0) K dX9_append_14 rfl ?_
    refine g_put (ty := .int) (ws' := [((A 0), .inr (10, [.ref (A 1), .ref (A 2), .ref (A 3), .ref (A 4), .int mhasKept, .ref (A 5), .int mpasts, .ref (A 6), .int mreports, .int 0, .ref (A 7), .ref (A 8), .ref (A 9), .int mordering, .int mdetail, .ref (A 10), .int mlength, .int mspot, .int mnumber, .ref (A 11), .int mtolds, .ref (A 12)])), ((A 1), .inl (cy 0, 672, .inl mg)), ((A 2), .inl (cy 0, 672, .inl mkept)), ((A 3), .inl (cy 0, 672, .inl mspare)), ((A 4), .inl (cy 0, 672, .inl mtrial)), ((A 5), .inl (cy 0, 5376, .inl mpast)), ((A 6), .inl (cy 0, 6, .inl mreport)), ((A 7), .inl (cy 0, 5, .inl mpart)), ((A 8), .inl (cy 0, 5, .inl mcome)), ((A 9), .inl (cy 0, 60, .inl morder)), ((A 10), .inl (cy 0, 80, .inl mtext)), ((A 11), .inl (cy 0, 200, .inl mtold)), ((A 12), .inl (cy 0, 672, .inl mahead))]) K (C := RX9) (T := TX9) (N := 22) 0 9 in_X9_append_X9 tyX9 tyX9_ok nmX9 (by decide +kernel) rfl rfl (by decide) rfl (by decide +kernel) rfl rfl (Nat.le_of_ble_eq_true rfl) rfl dX9_append_15 ?_
    refine g_aload_n K 0 dX9_append_18 rfl ?_
    refine g_get K (C := RX9) (T := TX9) (N := 22) 0 9 in_X9_append_X9 (by decide +kernel) rfl rfl (by decide) rfl dX9_append_19 ?_
    refine g_if_le (tgt := 27) K dX9_append_22 (by decide) (fun _ => ?_) (fun hc => absurd (by decide) hc)
    refine g_aload_n K 0 dX9_append_27 rfl ?_
    refine g_get K (C := RX9) (T := TX9) (N := 22) 0 15 in_X9_append_X9 (by decide +kernel) rfl rfl (by decide) rfl dX9_append_28 ?_
    refine g_aload_n K 0 dX9_append_31 rfl ?_
    refine g_get K (C := RX9) (T := TX9) (N := 22) 0 16 in_X9_append_X9 (by decide +kernel) rfl rfl (by decide) rfl dX9_append_32 ?_
    refine g_iload_n K 1 dX9_append_35 rfl ?_
    refine g_iast (ws' := [((A 0), .inr (10, [.ref (A 1), .ref (A 2), .ref (A 3), .ref (A 4), .int mhasKept, .ref (A 5), .int mpasts, .ref (A 6), .int mreports, .int 0, .ref (A 7), .ref (A 8), .ref (A 9), .int mordering, .int mdetail, .ref (A 10), .int mlength, .int mspot, .int mnumber, .ref (A 11), .int mtolds, .ref (A 12)])), ((A 1), .inl (cy 0, 672, .inl mg)), ((A 2), .inl (cy 0, 672, .inl mkept)), ((A 3), .inl (cy 0, 672, .inl mspare)), ((A 4), .inl (cy 0, 672, .inl mtrial)), ((A 5), .inl (cy 0, 5376, .inl mpast)), ((A 6), .inl (cy 0, 6, .inl mreport)), ((A 7), .inl (cy 0, 5, .inl mpart)), ((A 8), .inl (cy 0, 5, .inl mcome)), ((A 9), .inl (cy 0, 60, .inl morder)), ((A 10), .inl (cy 0, 80, .inl (upd mtext (mlength).toNatClampNeg p0))), ((A 11), .inl (cy 0, 200, .inl mtold)), ((A 12), .inl (cy 0, 672, .inl mahead))]) K 10 0 rfl rfl hw.1 rfl dX9_append_36 ?_
    replace hw := hw.2
    refine g_aload_n K 0 dX9_append_37 rfl ?_
    refine g_dup K dX9_append_38 rfl ?_
    refine g_get K (C := RX9) (T := TX9) (N := 22) 0 16 in_X9_append_X9 (by decide +kernel) rfl rfl (by decide) rfl dX9_append_39 ?_
    refine g_iconst (v := 1) K dX9_append_42 rfl ?_
    refine g_iadd K dX9_append_43 ?_
    refine g_topi (fun x1 ex1 => ?_)
    replace hw := hw x1 ex1
    refine g_put (ty := .int) (ws' := [((A 0), .inr (10, [.ref (A 1), .ref (A 2), .ref (A 3), .ref (A 4), .int mhasKept, .ref (A 5), .int mpasts, .ref (A 6), .int mreports, .int 0, .ref (A 7), .ref (A 8), .ref (A 9), .int mordering, .int mdetail, .ref (A 10), .int x1, .int mspot, .int mnumber, .ref (A 11), .int mtolds, .ref (A 12)])), ((A 1), .inl (cy 0, 672, .inl mg)), ((A 2), .inl (cy 0, 672, .inl mkept)), ((A 3), .inl (cy 0, 672, .inl mspare)), ((A 4), .inl (cy 0, 672, .inl mtrial)), ((A 5), .inl (cy 0, 5376, .inl mpast)), ((A 6), .inl (cy 0, 6, .inl mreport)), ((A 7), .inl (cy 0, 5, .inl mpart)), ((A 8), .inl (cy 0, 5, .inl mcome)), ((A 9), .inl (cy 0, 60, .inl morder)), ((A 10), .inl (cy 0, 80, .inl (upd mtext (mlength).toNatClampNeg p0))), ((A 11), .inl (cy 0, 200, .inl mtold)), ((A 12), .inl (cy 0, 672, .inl mahead))]) K (C := RX9) (T := TX9) (N := 22) 0 16 in_X9_append_X9 tyX9 tyX9_ok nmX9 (by decide +kernel) rfl rfl (by decide) rfl (by decide +kernel) rfl rfl (Nat.le_of_ble_eq_true rfl) rfl dX9_append_44 ?_
    refine g_aload_n K 0 dX9_append_47 rfl ?_
    refine g_get K (C := RX9) (T := TX9) (N := 22) 0 16 in_X9_append_X9 (by decide +kernel) rfl rfl (by decide) rfl dX9_append_48 ?_
    exact g_zret K E Er (x1, 0, x1, upd mtext (mlength).toNatClampNeg p0) hw rfl rfl rfl (Nat.le_refl _) (Nat.le_refl _) dX9_append_51
  · replace hw := hw.1 hc
    refine g_iconst (v := 1) K dX9_append_10 rfl ?_
    refine g_goto (tgt := 15) K dX9_append_11 (by decide) ?_
    refine g_put (ty := .int) (ws' := [((A 0), .inr (10, [.ref (A 1), .ref (A 2), .ref (A 3), .ref (A 4), .int mhasKept, .ref (A 5), .int mpasts, .ref (A 6), .int mreports, .int 1, .ref (A 7), .ref (A 8), .ref (A 9), .int mordering, .int mdetail, .ref (A 10), .int mlength, .int mspot, .int mnumber, .ref (A 11), .int mtolds, .ref (A 12)])), ((A 1), .inl (cy 0, 672, .inl mg)), ((A 2), .inl (cy 0, 672, .inl mkept)), ((A 3), .inl (cy 0, 672, .inl mspare)), ((A 4), .inl (cy 0, 672, .inl mtrial)), ((A 5), .inl (cy 0, 5376, .inl mpast)), ((A 6), .inl (cy 0, 6, .inl mreport)), ((A 7), .inl (cy 0, 5, .inl mpart)), ((A 8), .inl (cy 0, 5, .inl mcome)), ((A 9), .inl (cy 0, 60, .inl morder)), ((A 10), .inl (cy 0, 80, .inl mtext)), ((A 11), .inl (cy 0, 200, .inl mtold)), ((A 12), .inl (cy 0, 672, .inl mahead))]) K (C := RX9) (T := TX9) (N := 22) 0 9 in_X9_append_X9 tyX9 tyX9_ok nmX9 (by decide +kernel) rfl rfl (by decide) rfl (by decide +kernel) rfl rfl (Nat.le_of_ble_eq_true rfl) rfl dX9_append_15 ?_
    refine g_aload_n K 0 dX9_append_18 rfl ?_
    refine g_get K (C := RX9) (T := TX9) (N := 22) 0 9 in_X9_append_X9 (by decide +kernel) rfl rfl (by decide) rfl dX9_append_19 ?_
    refine g_if_le (tgt := 27) K dX9_append_22 (by decide) (fun hc => absurd hc (by decide)) (fun _ => ?_)
    refine g_iconst (v := 0) K dX9_append_25 rfl ?_
    exact g_zret K E Er (0, 1, mlength, mtext) hw rfl rfl rfl (Nat.le_refl _) (Nat.le_refl _) dX9_append_26

def wp_X9_here (mtext : XRow) (mlength : Int32) (mspot : Int32) (post : Int32 → Prop) : Prop := (mlength ≤ mspot → (post (-1))) ∧ (¬ mlength ≤ mspot → (vp_in mspot 80 ∧ (post (mtext (mspot).toNatClampNeg))))
theorem in_X9_here_X9 : ∀ w ∈ u_ws RX9 TX9 22, w ∈ wsX9_here := by decide +kernel
set_option maxRecDepth 100000 in
set_option maxHeartbeats 4000000 in
theorem c_X9_here (l : Launch) (D : va_G) (cy : Nat → ClassId) (sd : xSd) (A : Nat → Nat) (mg : XRow) (mkept : XRow) (mspare : XRow) (mtrial : XRow) (mpast : XRow) (mreport : XRow) (mpart : XRow) (mcome : XRow) (morder : XRow) (mtext : XRow) (mtold : XRow) (mahead : XRow) (mhasKept : Int32) (mpasts : Int32) (mreports : Int32) (mthrown : Int32) (mordering : Int32) (mdetail : Int32) (mlength : Int32) (mspot : Int32) (mnumber : Int32) (mtolds : Int32) {post : Int32 → Prop} (hw : wp_X9_here mtext mlength mspot post) : Ctr l D (xTys cy) sd yX9_here wsX9_here ({ frames := 0, cells := 0, slots := 0, locals := 0 } : Room) [.ref (A 0)] (fun u : Int32 => some (.int u)) [((A 0), .inr (10, [.ref (A 1), .ref (A 2), .ref (A 3), .ref (A 4), .int mhasKept, .ref (A 5), .int mpasts, .ref (A 6), .int mreports, .int mthrown, .ref (A 7), .ref (A 8), .ref (A 9), .int mordering, .int mdetail, .ref (A 10), .int mlength, .int mspot, .int mnumber, .ref (A 11), .int mtolds, .ref (A 12)])), ((A 1), .inl (cy 0, 672, .inl mg)), ((A 2), .inl (cy 0, 672, .inl mkept)), ((A 3), .inl (cy 0, 672, .inl mspare)), ((A 4), .inl (cy 0, 672, .inl mtrial)), ((A 5), .inl (cy 0, 5376, .inl mpast)), ((A 6), .inl (cy 0, 6, .inl mreport)), ((A 7), .inl (cy 0, 5, .inl mpart)), ((A 8), .inl (cy 0, 5, .inl mcome)), ((A 9), .inl (cy 0, 60, .inl morder)), ((A 10), .inl (cy 0, 80, .inl mtext)), ((A 11), .inl (cy 0, 200, .inl mtold)), ((A 12), .inl (cy 0, 672, .inl mahead))] (fun _ => [((A 0), .inr (10, [.ref (A 1), .ref (A 2), .ref (A 3), .ref (A 4), .int mhasKept, .ref (A 5), .int mpasts, .ref (A 6), .int mreports, .int mthrown, .ref (A 7), .ref (A 8), .ref (A 9), .int mordering, .int mdetail, .ref (A 10), .int mlength, .int mspot, .int mnumber, .ref (A 11), .int mtolds, .ref (A 12)])), ((A 1), .inl (cy 0, 672, .inl mg)), ((A 2), .inl (cy 0, 672, .inl mkept)), ((A 3), .inl (cy 0, 672, .inl mspare)), ((A 4), .inl (cy 0, 672, .inl mtrial)), ((A 5), .inl (cy 0, 5376, .inl mpast)), ((A 6), .inl (cy 0, 6, .inl mreport)), ((A 7), .inl (cy 0, 5, .inl mpart)), ((A 8), .inl (cy 0, 5, .inl mcome)), ((A 9), .inl (cy 0, 60, .inl morder)), ((A 10), .inl (cy 0, 80, .inl mtext)), ((A 11), .inl (cy 0, 200, .inl mtold)), ((A 12), .inl (cy 0, 672, .inl mahead))]) post := by
  refine Ctr.of (cc := cX9_here) (maxL := 1) (ret := (some .int)) (lv0 := [(0, .ref (A 0))]) (by decide) rfl (Nat.le_of_ble_eq_true rfl) rfl ?_
  intro X El hR Er Enm ED E En K
  have K : Cx X cX9_here RX9 wsX9_here (xTys cy) sd := K
  have E : X.2.2.2.2.2.2.2.2.2.2.1 = xMQ X (fun u : Int32 => some (.int u)) post (fun _ => [((A 0), .inr (10, [.ref (A 1), .ref (A 2), .ref (A 3), .ref (A 4), .int mhasKept, .ref (A 5), .int mpasts, .ref (A 6), .int mreports, .int mthrown, .ref (A 7), .ref (A 8), .ref (A 9), .int mordering, .int mdetail, .ref (A 10), .int mlength, .int mspot, .int mnumber, .ref (A 11), .int mtolds, .ref (A 12)])), ((A 1), .inl (cy 0, 672, .inl mg)), ((A 2), .inl (cy 0, 672, .inl mkept)), ((A 3), .inl (cy 0, 672, .inl mspare)), ((A 4), .inl (cy 0, 672, .inl mtrial)), ((A 5), .inl (cy 0, 5376, .inl mpast)), ((A 6), .inl (cy 0, 6, .inl mreport)), ((A 7), .inl (cy 0, 5, .inl mpart)), ((A 8), .inl (cy 0, 5, .inl mcome)), ((A 9), .inl (cy 0, 60, .inl morder)), ((A 10), .inl (cy 0, 80, .inl mtext)), ((A 11), .inl (cy 0, 200, .inl mtold)), ((A 12), .inl (cy 0, 672, .inl mahead))]) 0 0 := E
  unfold wp_X9_here at hw
  refine g_aload_n K 0 dX9_here_0 rfl ?_
  refine g_get K (C := RX9) (T := TX9) (N := 22) 0 17 in_X9_here_X9 (by decide +kernel) rfl rfl (by decide) rfl dX9_here_1 ?_
  refine g_aload_n K 0 dX9_here_4 rfl ?_
  refine g_get K (C := RX9) (T := TX9) (N := 22) 0 16 in_X9_here_X9 (by decide +kernel) rfl rfl (by decide) rfl dX9_here_5 ?_
  refine g_icmp_ge (tgt := 23) K dX9_here_8 (by decide) (fun hc => ?_) (fun hc => ?_)
  · replace hw := hw.1 hc
    refine g_iconst (v := (-1)) K dX9_here_23 rfl ?_
    exact g_zret K E Er (-1) hw rfl rfl rfl (Nat.le_refl _) (Nat.le_refl _) dX9_here_24
  · replace hw := hw.2 hc
    refine g_aload_n K 0 dX9_here_11 rfl ?_
    refine g_get K (C := RX9) (T := TX9) (N := 22) 0 15 in_X9_here_X9 (by decide +kernel) rfl rfl (by decide) rfl dX9_here_12 ?_
    refine g_aload_n K 0 dX9_here_15 rfl ?_
    refine g_get K (C := RX9) (T := TX9) (N := 22) 0 17 in_X9_here_X9 (by decide +kernel) rfl rfl (by decide) rfl dX9_here_16 ?_
    refine g_iald K 10 0 rfl rfl hw.1 dX9_here_19 ?_
    replace hw := hw.2
    refine g_goto (tgt := 24) K dX9_here_20 (by decide) ?_
    exact g_zret K E Er (mtext (mspot).toNatClampNeg) hw rfl rfl rfl (Nat.le_refl _) (Nat.le_refl _) dX9_here_24

def wp_X9_skips (mtext : XRow) (mlength : Int32) (mspot : Int32) (p0 : Int32) (post : (Bool × Int32) → Prop) : Prop := wp_X9_here mtext mlength mspot (fun u1 : Int32 => (u1 = p0 → (∀ x3 : Int32, x3 = mspot + 1 → (post (true, x3)))) ∧ (¬ u1 = p0 → (∀ x2 : Int32, x2 = mspot + 0 → (post (false, x2)))))
theorem in_X9_skips_X9 : ∀ w ∈ u_ws RX9 TX9 22, w ∈ wsX9_skips := by decide +kernel
set_option maxRecDepth 100000 in
set_option maxHeartbeats 4000000 in
theorem c_X9_skips (l : Launch) (D : va_G) (cy : Nat → ClassId) (sd : xSd) (A : Nat → Nat) (mg : XRow) (mkept : XRow) (mspare : XRow) (mtrial : XRow) (mpast : XRow) (mreport : XRow) (mpart : XRow) (mcome : XRow) (morder : XRow) (mtext : XRow) (mtold : XRow) (mahead : XRow) (mhasKept : Int32) (mpasts : Int32) (mreports : Int32) (mthrown : Int32) (mordering : Int32) (mdetail : Int32) (mlength : Int32) (mspot : Int32) (mnumber : Int32) (mtolds : Int32) (p0 : Int32) {post : (Bool × Int32) → Prop} (hw : wp_X9_skips mtext mlength mspot p0 post) : Ctr l D (xTys cy) sd yX9_skips wsX9_skips ({ frames := 1, cells := 0, slots := 0, locals := 20 } : Room) [.ref (A 0), .int p0] (fun u : Bool × Int32 => some (.int (bI u.1))) [((A 0), .inr (10, [.ref (A 1), .ref (A 2), .ref (A 3), .ref (A 4), .int mhasKept, .ref (A 5), .int mpasts, .ref (A 6), .int mreports, .int mthrown, .ref (A 7), .ref (A 8), .ref (A 9), .int mordering, .int mdetail, .ref (A 10), .int mlength, .int mspot, .int mnumber, .ref (A 11), .int mtolds, .ref (A 12)])), ((A 1), .inl (cy 0, 672, .inl mg)), ((A 2), .inl (cy 0, 672, .inl mkept)), ((A 3), .inl (cy 0, 672, .inl mspare)), ((A 4), .inl (cy 0, 672, .inl mtrial)), ((A 5), .inl (cy 0, 5376, .inl mpast)), ((A 6), .inl (cy 0, 6, .inl mreport)), ((A 7), .inl (cy 0, 5, .inl mpart)), ((A 8), .inl (cy 0, 5, .inl mcome)), ((A 9), .inl (cy 0, 60, .inl morder)), ((A 10), .inl (cy 0, 80, .inl mtext)), ((A 11), .inl (cy 0, 200, .inl mtold)), ((A 12), .inl (cy 0, 672, .inl mahead))] (fun u => [((A 0), .inr (10, [.ref (A 1), .ref (A 2), .ref (A 3), .ref (A 4), .int mhasKept, .ref (A 5), .int mpasts, .ref (A 6), .int mreports, .int mthrown, .ref (A 7), .ref (A 8), .ref (A 9), .int mordering, .int mdetail, .ref (A 10), .int mlength, .int u.2, .int mnumber, .ref (A 11), .int mtolds, .ref (A 12)])), ((A 1), .inl (cy 0, 672, .inl mg)), ((A 2), .inl (cy 0, 672, .inl mkept)), ((A 3), .inl (cy 0, 672, .inl mspare)), ((A 4), .inl (cy 0, 672, .inl mtrial)), ((A 5), .inl (cy 0, 5376, .inl mpast)), ((A 6), .inl (cy 0, 6, .inl mreport)), ((A 7), .inl (cy 0, 5, .inl mpart)), ((A 8), .inl (cy 0, 5, .inl mcome)), ((A 9), .inl (cy 0, 60, .inl morder)), ((A 10), .inl (cy 0, 80, .inl mtext)), ((A 11), .inl (cy 0, 200, .inl mtold)), ((A 12), .inl (cy 0, 672, .inl mahead))]) post := by
  refine Ctr.of (cc := cX9_skips) (maxL := 3) (ret := (some .boolean)) (lv0 := [(0, .ref (A 0)), (1, .int p0)]) (by decide) rfl (Nat.le_of_ble_eq_true rfl) rfl ?_
  intro X El hR Er Enm ED E En K
  have K : Cx X cX9_skips RX9 wsX9_skips (xTys cy) sd := K
  have E : X.2.2.2.2.2.2.2.2.2.2.1 = xMQ X (fun u : Bool × Int32 => some (.int (bI u.1))) post (fun u => [((A 0), .inr (10, [.ref (A 1), .ref (A 2), .ref (A 3), .ref (A 4), .int mhasKept, .ref (A 5), .int mpasts, .ref (A 6), .int mreports, .int mthrown, .ref (A 7), .ref (A 8), .ref (A 9), .int mordering, .int mdetail, .ref (A 10), .int mlength, .int u.2, .int mnumber, .ref (A 11), .int mtolds, .ref (A 12)])), ((A 1), .inl (cy 0, 672, .inl mg)), ((A 2), .inl (cy 0, 672, .inl mkept)), ((A 3), .inl (cy 0, 672, .inl mspare)), ((A 4), .inl (cy 0, 672, .inl mtrial)), ((A 5), .inl (cy 0, 5376, .inl mpast)), ((A 6), .inl (cy 0, 6, .inl mreport)), ((A 7), .inl (cy 0, 5, .inl mpart)), ((A 8), .inl (cy 0, 5, .inl mcome)), ((A 9), .inl (cy 0, 60, .inl morder)), ((A 10), .inl (cy 0, 80, .inl mtext)), ((A 11), .inl (cy 0, 200, .inl mtold)), ((A 12), .inl (cy 0, 672, .inl mahead))]) 0 0 := E
  unfold wp_X9_skips at hw
  refine g_aload_n K 0 dX9_skips_0 rfl ?_
  refine g_callVr (st' := fun u1 => [.int u1]) K hR [] [] 0 rfl rfl (c_X9_here X.2.1 (gxD X) cy sd A mg mkept mspare mtrial mpast mreport mpart mcome morder mtext mtold mahead mhasKept mpasts mreports mthrown mordering mdetail mlength mspot mnumber mtolds hw) gX9_skips_X9_here rfl yok_X9_here rfl rfl (by decide) rfl (Nat.le_of_ble_eq_true rfl) dX9_skips_1 [0, 1, 2, 3, 4, 5, 6, 7, 8, 9, 10, 11, 12] rfl (by decide) (fun _ => rfl) ⟨rfl, rfl⟩ (fun u1 hw => ?_)
  refine g_iload_n K 1 dX9_skips_4 rfl ?_
  refine g_icmp_ne (tgt := 12) K dX9_skips_5 (by decide) (fun hc => ?_) (fun hc => ?_)
  · replace hw := hw.2 hc
    refine g_iconst (v := 0) K dX9_skips_12 rfl ?_
    refine g_istore_n (lv' := [(2, .int 0), (0, .ref (A 0)), (1, .int p0)]) K dX9_skips_13 rfl (by rw [En]; decide) rfl ?_
    refine g_aload_n K 1 dX9_skips_14 rfl ?_
    refine g_dup K dX9_skips_15 rfl ?_
    refine g_get K (C := RX9) (T := TX9) (N := 22) 0 17 in_X9_skips_X9 (by decide +kernel) rfl rfl (by decide) rfl dX9_skips_16 ?_
    refine g_iload_n K 0 dX9_skips_19 rfl ?_
    refine g_if_eq (tgt := 27) K dX9_skips_20 (by decide) (fun _ => ?_) (fun hc => absurd (by decide) hc)
    refine g_iconst (v := 0) K dX9_skips_27 rfl ?_
    refine g_iadd K dX9_skips_28 ?_
    refine g_topi (fun x2 ex2 => ?_)
    replace hw := hw x2 ex2
    refine g_put (ty := .int) (ws' := [((A 0), .inr (10, [.ref (A 1), .ref (A 2), .ref (A 3), .ref (A 4), .int mhasKept, .ref (A 5), .int mpasts, .ref (A 6), .int mreports, .int mthrown, .ref (A 7), .ref (A 8), .ref (A 9), .int mordering, .int mdetail, .ref (A 10), .int mlength, .int x2, .int mnumber, .ref (A 11), .int mtolds, .ref (A 12)])), ((A 1), .inl (cy 0, 672, .inl mg)), ((A 2), .inl (cy 0, 672, .inl mkept)), ((A 3), .inl (cy 0, 672, .inl mspare)), ((A 4), .inl (cy 0, 672, .inl mtrial)), ((A 5), .inl (cy 0, 5376, .inl mpast)), ((A 6), .inl (cy 0, 6, .inl mreport)), ((A 7), .inl (cy 0, 5, .inl mpart)), ((A 8), .inl (cy 0, 5, .inl mcome)), ((A 9), .inl (cy 0, 60, .inl morder)), ((A 10), .inl (cy 0, 80, .inl mtext)), ((A 11), .inl (cy 0, 200, .inl mtold)), ((A 12), .inl (cy 0, 672, .inl mahead))]) K (C := RX9) (T := TX9) (N := 22) 0 17 in_X9_skips_X9 tyX9 tyX9_ok nmX9 (by decide +kernel) rfl rfl (by decide) rfl (by decide +kernel) rfl rfl (Nat.le_of_ble_eq_true rfl) rfl dX9_skips_29 ?_
    refine g_iload_n K 0 dX9_skips_32 rfl ?_
    exact g_zret K E Er (false, x2) hw rfl rfl rfl (Nat.le_refl _) (Nat.le_refl _) dX9_skips_33
  · replace hw := hw.1 hc
    refine g_iconst (v := 1) K dX9_skips_8 rfl ?_
    refine g_goto (tgt := 13) K dX9_skips_9 (by decide) ?_
    refine g_istore_n (lv' := [(2, .int 1), (0, .ref (A 0)), (1, .int p0)]) K dX9_skips_13 rfl (by rw [En]; decide) rfl ?_
    refine g_aload_n K 1 dX9_skips_14 rfl ?_
    refine g_dup K dX9_skips_15 rfl ?_
    refine g_get K (C := RX9) (T := TX9) (N := 22) 0 17 in_X9_skips_X9 (by decide +kernel) rfl rfl (by decide) rfl dX9_skips_16 ?_
    refine g_iload_n K 0 dX9_skips_19 rfl ?_
    refine g_if_eq (tgt := 27) K dX9_skips_20 (by decide) (fun hc => absurd hc (by decide)) (fun _ => ?_)
    refine g_iconst (v := 1) K dX9_skips_23 rfl ?_
    refine g_goto (tgt := 28) K dX9_skips_24 (by decide) ?_
    refine g_iadd K dX9_skips_28 ?_
    refine g_topi (fun x3 ex3 => ?_)
    replace hw := hw x3 ex3
    refine g_put (ty := .int) (ws' := [((A 0), .inr (10, [.ref (A 1), .ref (A 2), .ref (A 3), .ref (A 4), .int mhasKept, .ref (A 5), .int mpasts, .ref (A 6), .int mreports, .int mthrown, .ref (A 7), .ref (A 8), .ref (A 9), .int mordering, .int mdetail, .ref (A 10), .int mlength, .int x3, .int mnumber, .ref (A 11), .int mtolds, .ref (A 12)])), ((A 1), .inl (cy 0, 672, .inl mg)), ((A 2), .inl (cy 0, 672, .inl mkept)), ((A 3), .inl (cy 0, 672, .inl mspare)), ((A 4), .inl (cy 0, 672, .inl mtrial)), ((A 5), .inl (cy 0, 5376, .inl mpast)), ((A 6), .inl (cy 0, 6, .inl mreport)), ((A 7), .inl (cy 0, 5, .inl mpart)), ((A 8), .inl (cy 0, 5, .inl mcome)), ((A 9), .inl (cy 0, 60, .inl morder)), ((A 10), .inl (cy 0, 80, .inl mtext)), ((A 11), .inl (cy 0, 200, .inl mtold)), ((A 12), .inl (cy 0, 672, .inl mahead))]) K (C := RX9) (T := TX9) (N := 22) 0 17 in_X9_skips_X9 tyX9 tyX9_ok nmX9 (by decide +kernel) rfl rfl (by decide) rfl (by decide +kernel) rfl rfl (Nat.le_of_ble_eq_true rfl) rfl dX9_skips_29 ?_
    refine g_iload_n K 0 dX9_skips_32 rfl ?_
    exact g_zret K E Er (true, x3) hw rfl rfl rfl (Nat.le_refl _) (Nat.le_refl _) dX9_skips_33

def wp_X9_numberHere_L23 (mtext : XRow) (mlength : Int32) (p0 : Int32) (k23_77 : Int32 → Int32 → Int32 → Prop) : Nat → Int32 → Int32 → Int32 → Prop
  | 0, _, _, _ => False
  | fu + 1, v3, v4, v5 => (p0 ≤ v3 → (k23_77 v3 v4 v5)) ∧ (¬ p0 ≤ v3 → (wp_X9_here mtext mlength v4 (fun u6 : Int32 => wp_X9_in u6 48 57 (fun u7 : Bool => (u7 = true → (wp_X9_here mtext mlength v4 (fun u8 : Int32 => ∀ x9 : Int32, x9 = ((10 * v5) + u8) - 48 → (∀ x10 : Int32, x10 = v4 + 1 → (∀ x11 : Int32, x11 = v3 + 1 → (wp_X9_numberHere_L23 mtext mlength p0 k23_77 fu x11 x10 x9)))))) ∧ (u7 = false → (k23_77 v3 v4 v5))))))
def wp_X9_numberHere (mtext : XRow) (mlength : Int32) (mspot : Int32) (mnumber : Int32) (p0 : Int32) (post : (Bool × Int32 × Int32) → Prop) : Prop := wp_X9_here mtext mlength mspot (fun u1 : Int32 => wp_X9_in u1 48 57 (fun u2 : Bool => (u2 = true → (∃ fl, wp_X9_numberHere_L23 mtext mlength p0 (fun (v12 : Int32) (v13 : Int32) (v14 : Int32) => post (true, v13, v14)) fl 0 mspot 0)) ∧ (u2 = false → (post (false, mspot, mnumber)))))
theorem in_X9_numberHere_X9 : ∀ w ∈ u_ws RX9 TX9 22, w ∈ wsX9_numberHere := by decide +kernel
set_option maxRecDepth 100000 in
set_option maxHeartbeats 4000000 in
theorem c_X9_numberHere (l : Launch) (D : va_G) (cy : Nat → ClassId) (sd : xSd) (A : Nat → Nat) (mg : XRow) (mkept : XRow) (mspare : XRow) (mtrial : XRow) (mpast : XRow) (mreport : XRow) (mpart : XRow) (mcome : XRow) (morder : XRow) (mtext : XRow) (mtold : XRow) (mahead : XRow) (mhasKept : Int32) (mpasts : Int32) (mreports : Int32) (mthrown : Int32) (mordering : Int32) (mdetail : Int32) (mlength : Int32) (mspot : Int32) (mnumber : Int32) (mtolds : Int32) (p0 : Int32) {post : (Bool × Int32 × Int32) → Prop} (hw : wp_X9_numberHere mtext mlength mspot mnumber p0 post) : Ctr l D (xTys cy) sd yX9_numberHere wsX9_numberHere ({ frames := 1, cells := 0, slots := 0, locals := 22 } : Room) [.ref (A 0), .int p0] (fun u : Bool × Int32 × Int32 => some (.int (bI u.1))) [((A 0), .inr (10, [.ref (A 1), .ref (A 2), .ref (A 3), .ref (A 4), .int mhasKept, .ref (A 5), .int mpasts, .ref (A 6), .int mreports, .int mthrown, .ref (A 7), .ref (A 8), .ref (A 9), .int mordering, .int mdetail, .ref (A 10), .int mlength, .int mspot, .int mnumber, .ref (A 11), .int mtolds, .ref (A 12)])), ((A 1), .inl (cy 0, 672, .inl mg)), ((A 2), .inl (cy 0, 672, .inl mkept)), ((A 3), .inl (cy 0, 672, .inl mspare)), ((A 4), .inl (cy 0, 672, .inl mtrial)), ((A 5), .inl (cy 0, 5376, .inl mpast)), ((A 6), .inl (cy 0, 6, .inl mreport)), ((A 7), .inl (cy 0, 5, .inl mpart)), ((A 8), .inl (cy 0, 5, .inl mcome)), ((A 9), .inl (cy 0, 60, .inl morder)), ((A 10), .inl (cy 0, 80, .inl mtext)), ((A 11), .inl (cy 0, 200, .inl mtold)), ((A 12), .inl (cy 0, 672, .inl mahead))] (fun u => [((A 0), .inr (10, [.ref (A 1), .ref (A 2), .ref (A 3), .ref (A 4), .int mhasKept, .ref (A 5), .int mpasts, .ref (A 6), .int mreports, .int mthrown, .ref (A 7), .ref (A 8), .ref (A 9), .int mordering, .int mdetail, .ref (A 10), .int mlength, .int u.2.1, .int u.2.2, .ref (A 11), .int mtolds, .ref (A 12)])), ((A 1), .inl (cy 0, 672, .inl mg)), ((A 2), .inl (cy 0, 672, .inl mkept)), ((A 3), .inl (cy 0, 672, .inl mspare)), ((A 4), .inl (cy 0, 672, .inl mtrial)), ((A 5), .inl (cy 0, 5376, .inl mpast)), ((A 6), .inl (cy 0, 6, .inl mreport)), ((A 7), .inl (cy 0, 5, .inl mpart)), ((A 8), .inl (cy 0, 5, .inl mcome)), ((A 9), .inl (cy 0, 60, .inl morder)), ((A 10), .inl (cy 0, 80, .inl mtext)), ((A 11), .inl (cy 0, 200, .inl mtold)), ((A 12), .inl (cy 0, 672, .inl mahead))]) post := by
  refine Ctr.of (cc := cX9_numberHere) (maxL := 3) (ret := (some .boolean)) (lv0 := [(0, .ref (A 0)), (1, .int p0)]) (by decide) rfl (Nat.le_of_ble_eq_true rfl) rfl ?_
  intro X El hR Er Enm ED E En K
  have K : Cx X cX9_numberHere RX9 wsX9_numberHere (xTys cy) sd := K
  have E : X.2.2.2.2.2.2.2.2.2.2.1 = xMQ X (fun u : Bool × Int32 × Int32 => some (.int (bI u.1))) post (fun u => [((A 0), .inr (10, [.ref (A 1), .ref (A 2), .ref (A 3), .ref (A 4), .int mhasKept, .ref (A 5), .int mpasts, .ref (A 6), .int mreports, .int mthrown, .ref (A 7), .ref (A 8), .ref (A 9), .int mordering, .int mdetail, .ref (A 10), .int mlength, .int u.2.1, .int u.2.2, .ref (A 11), .int mtolds, .ref (A 12)])), ((A 1), .inl (cy 0, 672, .inl mg)), ((A 2), .inl (cy 0, 672, .inl mkept)), ((A 3), .inl (cy 0, 672, .inl mspare)), ((A 4), .inl (cy 0, 672, .inl mtrial)), ((A 5), .inl (cy 0, 5376, .inl mpast)), ((A 6), .inl (cy 0, 6, .inl mreport)), ((A 7), .inl (cy 0, 5, .inl mpart)), ((A 8), .inl (cy 0, 5, .inl mcome)), ((A 9), .inl (cy 0, 60, .inl morder)), ((A 10), .inl (cy 0, 80, .inl mtext)), ((A 11), .inl (cy 0, 200, .inl mtold)), ((A 12), .inl (cy 0, 672, .inl mahead))]) 0 0 := E
  unfold wp_X9_numberHere at hw
  refine g_aload_n K 0 dX9_numberHere_0 rfl ?_
  refine g_callVr (st' := fun u1 => [.int u1]) K hR [] [] 0 rfl rfl (c_X9_here X.2.1 (gxD X) cy sd A mg mkept mspare mtrial mpast mreport mpart mcome morder mtext mtold mahead mhasKept mpasts mreports mthrown mordering mdetail mlength mspot mnumber mtolds hw) gX9_numberHere_X9_here rfl yok_X9_here rfl rfl (by decide) rfl (Nat.le_of_ble_eq_true rfl) dX9_numberHere_1 [0, 1, 2, 3, 4, 5, 6, 7, 8, 9, 10, 11, 12] rfl (by decide) (fun _ => rfl) ⟨rfl, rfl⟩ (fun u1 hw => ?_)
  refine g_bipush (v := 48) K dX9_numberHere_4 rfl ?_
  refine g_bipush (v := 57) K dX9_numberHere_6 rfl ?_
  refine g_callSr (st' := fun u2 => [.int (bI u2)]) K hR [.int u1, .int 48, .int 57] [] (c_X9_in X.2.1 (gxD X) cy sd u1 48 57 hw) gX9_numberHere_X9_in rfl yok_X9_in rfl (by decide) rfl (Nat.le_of_ble_eq_true rfl) dX9_numberHere_8 [] rfl (by decide) (fun _ => rfl) ⟨rfl, rfl⟩ (fun u2 hw => ?_)
  refine g_ifb_ne (tgt := 16) K dX9_numberHere_11 (by decide) (fun hc => ?_) (fun hc => ?_)
  · replace hw := hw.1 hc
    refine g_aload_n K 0 dX9_numberHere_16 rfl ?_
    refine g_iconst (v := 0) K dX9_numberHere_17 rfl ?_
    refine g_put (ty := .int) (ws' := [((A 0), .inr (10, [.ref (A 1), .ref (A 2), .ref (A 3), .ref (A 4), .int mhasKept, .ref (A 5), .int mpasts, .ref (A 6), .int mreports, .int mthrown, .ref (A 7), .ref (A 8), .ref (A 9), .int mordering, .int mdetail, .ref (A 10), .int mlength, .int mspot, .int 0, .ref (A 11), .int mtolds, .ref (A 12)])), ((A 1), .inl (cy 0, 672, .inl mg)), ((A 2), .inl (cy 0, 672, .inl mkept)), ((A 3), .inl (cy 0, 672, .inl mspare)), ((A 4), .inl (cy 0, 672, .inl mtrial)), ((A 5), .inl (cy 0, 5376, .inl mpast)), ((A 6), .inl (cy 0, 6, .inl mreport)), ((A 7), .inl (cy 0, 5, .inl mpart)), ((A 8), .inl (cy 0, 5, .inl mcome)), ((A 9), .inl (cy 0, 60, .inl morder)), ((A 10), .inl (cy 0, 80, .inl mtext)), ((A 11), .inl (cy 0, 200, .inl mtold)), ((A 12), .inl (cy 0, 672, .inl mahead))]) K (C := RX9) (T := TX9) (N := 22) 0 18 in_X9_numberHere_X9 tyX9 tyX9_ok nmX9 (by decide +kernel) rfl rfl (by decide) rfl (by decide +kernel) rfl rfl (Nat.le_of_ble_eq_true rfl) rfl dX9_numberHere_18 ?_
    refine g_iconst (v := 0) K dX9_numberHere_21 rfl ?_
    refine g_istore_n (lv' := [(2, .int 0), (0, .ref (A 0)), (1, .int p0)]) K dX9_numberHere_22 rfl (by rw [En]; decide) rfl ?_
    obtain ⟨fl, hw⟩ := hw
    have key : ∀ (k23_77 : Int32 → Int32 → Int32 → Prop), (∀ (v3 : Int32) (v4 : Int32) (v5 : Int32), k23_77 v3 v4 v5 → Gx X 0 0 [((A 0), .inr (10, [.ref (A 1), .ref (A 2), .ref (A 3), .ref (A 4), .int mhasKept, .ref (A 5), .int mpasts, .ref (A 6), .int mreports, .int mthrown, .ref (A 7), .ref (A 8), .ref (A 9), .int mordering, .int mdetail, .ref (A 10), .int mlength, .int v4, .int v5, .ref (A 11), .int mtolds, .ref (A 12)])), ((A 1), .inl (cy 0, 672, .inl mg)), ((A 2), .inl (cy 0, 672, .inl mkept)), ((A 3), .inl (cy 0, 672, .inl mspare)), ((A 4), .inl (cy 0, 672, .inl mtrial)), ((A 5), .inl (cy 0, 5376, .inl mpast)), ((A 6), .inl (cy 0, 6, .inl mreport)), ((A 7), .inl (cy 0, 5, .inl mpart)), ((A 8), .inl (cy 0, 5, .inl mcome)), ((A 9), .inl (cy 0, 60, .inl morder)), ((A 10), .inl (cy 0, 80, .inl mtext)), ((A 11), .inl (cy 0, 200, .inl mtold)), ((A 12), .inl (cy 0, 672, .inl mahead))] [(2, .int v3), (0, .ref (A 0)), (1, .int p0)] 77 []) → ∀ (n : Nat) (v3 : Int32) (v4 : Int32) (v5 : Int32), wp_X9_numberHere_L23 mtext mlength p0 k23_77 n v3 v4 v5 → Gx X 0 0 [((A 0), .inr (10, [.ref (A 1), .ref (A 2), .ref (A 3), .ref (A 4), .int mhasKept, .ref (A 5), .int mpasts, .ref (A 6), .int mreports, .int mthrown, .ref (A 7), .ref (A 8), .ref (A 9), .int mordering, .int mdetail, .ref (A 10), .int mlength, .int v4, .int v5, .ref (A 11), .int mtolds, .ref (A 12)])), ((A 1), .inl (cy 0, 672, .inl mg)), ((A 2), .inl (cy 0, 672, .inl mkept)), ((A 3), .inl (cy 0, 672, .inl mspare)), ((A 4), .inl (cy 0, 672, .inl mtrial)), ((A 5), .inl (cy 0, 5376, .inl mpast)), ((A 6), .inl (cy 0, 6, .inl mreport)), ((A 7), .inl (cy 0, 5, .inl mpart)), ((A 8), .inl (cy 0, 5, .inl mcome)), ((A 9), .inl (cy 0, 60, .inl morder)), ((A 10), .inl (cy 0, 80, .inl mtext)), ((A 11), .inl (cy 0, 200, .inl mtold)), ((A 12), .inl (cy 0, 672, .inl mahead))] [(2, .int v3), (0, .ref (A 0)), (1, .int p0)] 23 [] := by
      intro k23_77 hx77 n
      induction n with
      | zero => intro v3 v4 v5 hw; exact hw.elim
      | succ n ih =>
        intro v3 v4 v5 hw
        refine g_iload_n K 0 dX9_numberHere_23 rfl ?_
        refine g_iload_n K 2 dX9_numberHere_24 rfl ?_
        refine g_icmp_ge (tgt := 77) K dX9_numberHere_25 (by decide) (fun hc => ?_) (fun hc => ?_)
        · replace hw := hw.1 hc
          exact hx77 _ _ _ hw
        · replace hw := hw.2 hc
          refine g_aload_n K 1 dX9_numberHere_28 rfl ?_
          refine g_callVr (st' := fun u6 => [.int u6]) K hR [] [] 0 rfl rfl (c_X9_here X.2.1 (gxD X) cy sd A mg mkept mspare mtrial mpast mreport mpart mcome morder mtext mtold mahead mhasKept mpasts mreports mthrown mordering mdetail mlength v4 v5 mtolds hw) gX9_numberHere_X9_here rfl yok_X9_here rfl rfl (by decide) rfl (Nat.le_of_ble_eq_true rfl) dX9_numberHere_29 [0, 1, 2, 3, 4, 5, 6, 7, 8, 9, 10, 11, 12] rfl (by decide) (fun _ => rfl) ⟨rfl, rfl⟩ (fun u6 hw => ?_)
          refine g_bipush (v := 48) K dX9_numberHere_32 rfl ?_
          refine g_bipush (v := 57) K dX9_numberHere_34 rfl ?_
          refine g_callSr (st' := fun u7 => [.int (bI u7)]) K hR [.int u6, .int 48, .int 57] [] (c_X9_in X.2.1 (gxD X) cy sd u6 48 57 hw) gX9_numberHere_X9_in rfl yok_X9_in rfl (by decide) rfl (Nat.le_of_ble_eq_true rfl) dX9_numberHere_36 [] rfl (by decide) (fun _ => rfl) ⟨rfl, rfl⟩ (fun u7 hw => ?_)
          refine g_ifb_eq (tgt := 77) K dX9_numberHere_39 (by decide) (fun hc => ?_) (fun hc => ?_)
          · replace hw := hw.2 hc
            exact hx77 _ _ _ hw
          · replace hw := hw.1 hc
            refine g_aload_n K 1 dX9_numberHere_42 rfl ?_
            refine g_bipush (v := 10) K dX9_numberHere_43 rfl ?_
            refine g_aload_n K 1 dX9_numberHere_45 rfl ?_
            refine g_get K (C := RX9) (T := TX9) (N := 22) 0 18 in_X9_numberHere_X9 (by decide +kernel) rfl rfl (by decide) rfl dX9_numberHere_46 ?_
            refine g_imul K dX9_numberHere_49 ?_
            refine g_aload_n K 1 dX9_numberHere_50 rfl ?_
            refine g_callVr (st' := fun u8 => [.int u8, .int (10 * v5), .ref (A 0)]) K hR [] [.int (10 * v5), .ref (A 0)] 0 rfl rfl (c_X9_here X.2.1 (gxD X) cy sd A mg mkept mspare mtrial mpast mreport mpart mcome morder mtext mtold mahead mhasKept mpasts mreports mthrown mordering mdetail mlength v4 v5 mtolds hw) gX9_numberHere_X9_here rfl yok_X9_here rfl rfl (by decide) rfl (Nat.le_of_ble_eq_true rfl) dX9_numberHere_51 [0, 1, 2, 3, 4, 5, 6, 7, 8, 9, 10, 11, 12] rfl (by decide) (fun _ => rfl) ⟨rfl, rfl⟩ (fun u8 hw => ?_)
            refine g_iadd K dX9_numberHere_54 ?_
            refine g_bipush (v := 48) K dX9_numberHere_55 rfl ?_
            refine g_isub K dX9_numberHere_57 ?_
            refine g_topi (fun x9 ex9 => ?_)
            replace hw := hw x9 ex9
            refine g_put (ty := .int) (ws' := [((A 0), .inr (10, [.ref (A 1), .ref (A 2), .ref (A 3), .ref (A 4), .int mhasKept, .ref (A 5), .int mpasts, .ref (A 6), .int mreports, .int mthrown, .ref (A 7), .ref (A 8), .ref (A 9), .int mordering, .int mdetail, .ref (A 10), .int mlength, .int v4, .int x9, .ref (A 11), .int mtolds, .ref (A 12)])), ((A 1), .inl (cy 0, 672, .inl mg)), ((A 2), .inl (cy 0, 672, .inl mkept)), ((A 3), .inl (cy 0, 672, .inl mspare)), ((A 4), .inl (cy 0, 672, .inl mtrial)), ((A 5), .inl (cy 0, 5376, .inl mpast)), ((A 6), .inl (cy 0, 6, .inl mreport)), ((A 7), .inl (cy 0, 5, .inl mpart)), ((A 8), .inl (cy 0, 5, .inl mcome)), ((A 9), .inl (cy 0, 60, .inl morder)), ((A 10), .inl (cy 0, 80, .inl mtext)), ((A 11), .inl (cy 0, 200, .inl mtold)), ((A 12), .inl (cy 0, 672, .inl mahead))]) K (C := RX9) (T := TX9) (N := 22) 0 18 in_X9_numberHere_X9 tyX9 tyX9_ok nmX9 (by decide +kernel) rfl rfl (by decide) rfl (by decide +kernel) rfl rfl (Nat.le_of_ble_eq_true rfl) rfl dX9_numberHere_58 ?_
            refine g_aload_n K 1 dX9_numberHere_61 rfl ?_
            refine g_dup K dX9_numberHere_62 rfl ?_
            refine g_get K (C := RX9) (T := TX9) (N := 22) 0 17 in_X9_numberHere_X9 (by decide +kernel) rfl rfl (by decide) rfl dX9_numberHere_63 ?_
            refine g_iconst (v := 1) K dX9_numberHere_66 rfl ?_
            refine g_iadd K dX9_numberHere_67 ?_
            refine g_topi (fun x10 ex10 => ?_)
            replace hw := hw x10 ex10
            refine g_put (ty := .int) (ws' := [((A 0), .inr (10, [.ref (A 1), .ref (A 2), .ref (A 3), .ref (A 4), .int mhasKept, .ref (A 5), .int mpasts, .ref (A 6), .int mreports, .int mthrown, .ref (A 7), .ref (A 8), .ref (A 9), .int mordering, .int mdetail, .ref (A 10), .int mlength, .int x10, .int x9, .ref (A 11), .int mtolds, .ref (A 12)])), ((A 1), .inl (cy 0, 672, .inl mg)), ((A 2), .inl (cy 0, 672, .inl mkept)), ((A 3), .inl (cy 0, 672, .inl mspare)), ((A 4), .inl (cy 0, 672, .inl mtrial)), ((A 5), .inl (cy 0, 5376, .inl mpast)), ((A 6), .inl (cy 0, 6, .inl mreport)), ((A 7), .inl (cy 0, 5, .inl mpart)), ((A 8), .inl (cy 0, 5, .inl mcome)), ((A 9), .inl (cy 0, 60, .inl morder)), ((A 10), .inl (cy 0, 80, .inl mtext)), ((A 11), .inl (cy 0, 200, .inl mtold)), ((A 12), .inl (cy 0, 672, .inl mahead))]) K (C := RX9) (T := TX9) (N := 22) 0 17 in_X9_numberHere_X9 tyX9 tyX9_ok nmX9 (by decide +kernel) rfl rfl (by decide) rfl (by decide +kernel) rfl rfl (Nat.le_of_ble_eq_true rfl) rfl dX9_numberHere_68 ?_
            obtain ⟨x11, ex11⟩ : ∃ z : Int32, z = v3 + 1 := ⟨_, rfl⟩
            replace hw := hw x11 ex11
            refine g_iinc (v := x11) (lv' := [(2, .int x11), (0, .ref (A 0)), (1, .int p0)]) K 0 dX9_numberHere_71 rfl (by rw [ex11]; rfl) (by rw [En]; decide) rfl ?_
            refine g_goto (tgt := 23) K dX9_numberHere_74 (by decide) ?_
            exact ih _ _ _ hw
    refine key _ (fun v12 v13 v14 hw => ?_) fl _ _ _ hw
    refine g_iconst (v := 1) K dX9_numberHere_77 rfl ?_
    exact g_zret K E Er (true, v13, v14) hw rfl rfl rfl (Nat.le_refl _) (Nat.le_refl _) dX9_numberHere_78
  · replace hw := hw.2 hc
    refine g_iconst (v := 0) K dX9_numberHere_14 rfl ?_
    exact g_zret K E Er (false, mspot, mnumber) hw rfl rfl rfl (Nat.le_refl _) (Nat.le_refl _) dX9_numberHere_15

def wp_X9_puts (mtext : XRow) (mtold : XRow) (mlength : Int32) (mspot : Int32) (mnumber : Int32) (p0 : Int32) (p1 : Int32) (post : (Bool × Int32 × Int32 × XRow) → Prop) : Prop := wp_X9_numberHere mtext mlength mspot mnumber p1 (fun u1 : Bool × Int32 × Int32 => vp_in p0 200 ∧ (post (u1.1, u1.2.1, u1.2.2, upd mtold (p0).toNatClampNeg u1.2.2)))
theorem in_X9_puts_X9 : ∀ w ∈ u_ws RX9 TX9 22, w ∈ wsX9_puts := by decide +kernel
set_option maxRecDepth 100000 in
set_option maxHeartbeats 4000000 in
theorem c_X9_puts (l : Launch) (D : va_G) (cy : Nat → ClassId) (sd : xSd) (A : Nat → Nat) (mg : XRow) (mkept : XRow) (mspare : XRow) (mtrial : XRow) (mpast : XRow) (mreport : XRow) (mpart : XRow) (mcome : XRow) (morder : XRow) (mtext : XRow) (mtold : XRow) (mahead : XRow) (mhasKept : Int32) (mpasts : Int32) (mreports : Int32) (mthrown : Int32) (mordering : Int32) (mdetail : Int32) (mlength : Int32) (mspot : Int32) (mnumber : Int32) (mtolds : Int32) (p0 : Int32) (p1 : Int32) {post : (Bool × Int32 × Int32 × XRow) → Prop} (hw : wp_X9_puts mtext mtold mlength mspot mnumber p0 p1 post) : Ctr l D (xTys cy) sd yX9_puts wsX9_puts ({ frames := 2, cells := 0, slots := 0, locals := 44 } : Room) [.ref (A 0), .int p0, .int p1] (fun u : Bool × Int32 × Int32 × XRow => some (.int (bI u.1))) [((A 0), .inr (10, [.ref (A 1), .ref (A 2), .ref (A 3), .ref (A 4), .int mhasKept, .ref (A 5), .int mpasts, .ref (A 6), .int mreports, .int mthrown, .ref (A 7), .ref (A 8), .ref (A 9), .int mordering, .int mdetail, .ref (A 10), .int mlength, .int mspot, .int mnumber, .ref (A 11), .int mtolds, .ref (A 12)])), ((A 1), .inl (cy 0, 672, .inl mg)), ((A 2), .inl (cy 0, 672, .inl mkept)), ((A 3), .inl (cy 0, 672, .inl mspare)), ((A 4), .inl (cy 0, 672, .inl mtrial)), ((A 5), .inl (cy 0, 5376, .inl mpast)), ((A 6), .inl (cy 0, 6, .inl mreport)), ((A 7), .inl (cy 0, 5, .inl mpart)), ((A 8), .inl (cy 0, 5, .inl mcome)), ((A 9), .inl (cy 0, 60, .inl morder)), ((A 10), .inl (cy 0, 80, .inl mtext)), ((A 11), .inl (cy 0, 200, .inl mtold)), ((A 12), .inl (cy 0, 672, .inl mahead))] (fun u => [((A 0), .inr (10, [.ref (A 1), .ref (A 2), .ref (A 3), .ref (A 4), .int mhasKept, .ref (A 5), .int mpasts, .ref (A 6), .int mreports, .int mthrown, .ref (A 7), .ref (A 8), .ref (A 9), .int mordering, .int mdetail, .ref (A 10), .int mlength, .int u.2.1, .int u.2.2.1, .ref (A 11), .int mtolds, .ref (A 12)])), ((A 1), .inl (cy 0, 672, .inl mg)), ((A 2), .inl (cy 0, 672, .inl mkept)), ((A 3), .inl (cy 0, 672, .inl mspare)), ((A 4), .inl (cy 0, 672, .inl mtrial)), ((A 5), .inl (cy 0, 5376, .inl mpast)), ((A 6), .inl (cy 0, 6, .inl mreport)), ((A 7), .inl (cy 0, 5, .inl mpart)), ((A 8), .inl (cy 0, 5, .inl mcome)), ((A 9), .inl (cy 0, 60, .inl morder)), ((A 10), .inl (cy 0, 80, .inl mtext)), ((A 11), .inl (cy 0, 200, .inl u.2.2.2)), ((A 12), .inl (cy 0, 672, .inl mahead))]) post := by
  refine Ctr.of (cc := cX9_puts) (maxL := 4) (ret := (some .boolean)) (lv0 := [(0, .ref (A 0)), (1, .int p0), (2, .int p1)]) (by decide) rfl (Nat.le_of_ble_eq_true rfl) rfl ?_
  intro X El hR Er Enm ED E En K
  have K : Cx X cX9_puts RX9 wsX9_puts (xTys cy) sd := K
  have E : X.2.2.2.2.2.2.2.2.2.2.1 = xMQ X (fun u : Bool × Int32 × Int32 × XRow => some (.int (bI u.1))) post (fun u => [((A 0), .inr (10, [.ref (A 1), .ref (A 2), .ref (A 3), .ref (A 4), .int mhasKept, .ref (A 5), .int mpasts, .ref (A 6), .int mreports, .int mthrown, .ref (A 7), .ref (A 8), .ref (A 9), .int mordering, .int mdetail, .ref (A 10), .int mlength, .int u.2.1, .int u.2.2.1, .ref (A 11), .int mtolds, .ref (A 12)])), ((A 1), .inl (cy 0, 672, .inl mg)), ((A 2), .inl (cy 0, 672, .inl mkept)), ((A 3), .inl (cy 0, 672, .inl mspare)), ((A 4), .inl (cy 0, 672, .inl mtrial)), ((A 5), .inl (cy 0, 5376, .inl mpast)), ((A 6), .inl (cy 0, 6, .inl mreport)), ((A 7), .inl (cy 0, 5, .inl mpart)), ((A 8), .inl (cy 0, 5, .inl mcome)), ((A 9), .inl (cy 0, 60, .inl morder)), ((A 10), .inl (cy 0, 80, .inl mtext)), ((A 11), .inl (cy 0, 200, .inl u.2.2.2)), ((A 12), .inl (cy 0, 672, .inl mahead))]) 0 0 := E
  unfold wp_X9_puts at hw
  refine g_aload_n K 0 dX9_puts_0 rfl ?_
  refine g_iload_n K 2 dX9_puts_1 rfl ?_
  refine g_callV (st' := fun u1 => [.int (bI u1.1)]) (ws' := fun u1 => [((A 0), .inr (10, [.ref (A 1), .ref (A 2), .ref (A 3), .ref (A 4), .int mhasKept, .ref (A 5), .int mpasts, .ref (A 6), .int mreports, .int mthrown, .ref (A 7), .ref (A 8), .ref (A 9), .int mordering, .int mdetail, .ref (A 10), .int mlength, .int u1.2.1, .int u1.2.2, .ref (A 11), .int mtolds, .ref (A 12)])), ((A 1), .inl (cy 0, 672, .inl mg)), ((A 2), .inl (cy 0, 672, .inl mkept)), ((A 3), .inl (cy 0, 672, .inl mspare)), ((A 4), .inl (cy 0, 672, .inl mtrial)), ((A 5), .inl (cy 0, 5376, .inl mpast)), ((A 6), .inl (cy 0, 6, .inl mreport)), ((A 7), .inl (cy 0, 5, .inl mpart)), ((A 8), .inl (cy 0, 5, .inl mcome)), ((A 9), .inl (cy 0, 60, .inl morder)), ((A 10), .inl (cy 0, 80, .inl mtext)), ((A 11), .inl (cy 0, 200, .inl mtold)), ((A 12), .inl (cy 0, 672, .inl mahead))]) K hR [.int p1] [] 0 rfl rfl (c_X9_numberHere X.2.1 (gxD X) cy sd A mg mkept mspare mtrial mpast mreport mpart mcome morder mtext mtold mahead mhasKept mpasts mreports mthrown mordering mdetail mlength mspot mnumber mtolds p1 hw) gX9_puts_X9_numberHere rfl yok_X9_numberHere rfl rfl (by decide) rfl (Nat.le_of_ble_eq_true rfl) dX9_puts_2 [0, 1, 2, 3, 4, 5, 6, 7, 8, 9, 10, 11, 12] rfl (by decide) (fun _ => rfl) (fun _ => rfl) (fun _ => rfl) ⟨rfl, rfl⟩ (fun u1 hw => ?_)
  refine g_istore_n (lv' := [(3, .int (bI u1.1)), (0, .ref (A 0)), (1, .int p0), (2, .int p1)]) K dX9_puts_5 rfl (by rw [En]; decide) rfl ?_
  refine g_aload_n K 1 dX9_puts_6 rfl ?_
  refine g_get K (C := RX9) (T := TX9) (N := 22) 0 19 in_X9_puts_X9 (by decide +kernel) rfl rfl (by decide) rfl dX9_puts_7 ?_
  refine g_iload_n K 2 dX9_puts_10 rfl ?_
  refine g_aload_n K 1 dX9_puts_11 rfl ?_
  refine g_get K (C := RX9) (T := TX9) (N := 22) 0 18 in_X9_puts_X9 (by decide +kernel) rfl rfl (by decide) rfl dX9_puts_12 ?_
  refine g_iast (ws' := [((A 0), .inr (10, [.ref (A 1), .ref (A 2), .ref (A 3), .ref (A 4), .int mhasKept, .ref (A 5), .int mpasts, .ref (A 6), .int mreports, .int mthrown, .ref (A 7), .ref (A 8), .ref (A 9), .int mordering, .int mdetail, .ref (A 10), .int mlength, .int u1.2.1, .int u1.2.2, .ref (A 11), .int mtolds, .ref (A 12)])), ((A 1), .inl (cy 0, 672, .inl mg)), ((A 2), .inl (cy 0, 672, .inl mkept)), ((A 3), .inl (cy 0, 672, .inl mspare)), ((A 4), .inl (cy 0, 672, .inl mtrial)), ((A 5), .inl (cy 0, 5376, .inl mpast)), ((A 6), .inl (cy 0, 6, .inl mreport)), ((A 7), .inl (cy 0, 5, .inl mpart)), ((A 8), .inl (cy 0, 5, .inl mcome)), ((A 9), .inl (cy 0, 60, .inl morder)), ((A 10), .inl (cy 0, 80, .inl mtext)), ((A 11), .inl (cy 0, 200, .inl (upd mtold (p0).toNatClampNeg u1.2.2))), ((A 12), .inl (cy 0, 672, .inl mahead))]) K 11 0 rfl rfl hw.1 rfl dX9_puts_15 ?_
  replace hw := hw.2
  refine g_iload_n K 0 dX9_puts_16 rfl ?_
  exact g_zret K E Er (u1.1, u1.2.1, u1.2.2, upd mtold (p0).toNatClampNeg u1.2.2) hw rfl (bI_narrow _) rfl (Nat.le_refl _) (Nat.le_refl _) dX9_puts_17

def wp_X9_command (mtext : XRow) (mtold : XRow) (mlength : Int32) (mspot : Int32) (mnumber : Int32) (mtolds : Int32) (post : (Bool × Int32 × Int32 × Int32 × XRow) → Prop) : Prop := ∀ x1 : Int32, x1 = 5 * mtolds → (wp_X9_here mtext mlength mspot (fun u2 : Int32 => (u2 = 102 → (vp_in x1 200 ∧ (∀ x3 : Int32, x3 = mspot + 1 → (∀ x4 : Int32, x4 = mtolds + 1 → ((u2 = 114 → (wp_X9_puts mtext (upd mtold (x1).toNatClampNeg u2) mlength x3 mnumber (x1 + 1) 4 (fun u5 : Bool × Int32 × Int32 × XRow => post (u5.1, u5.2.1, u5.2.2.1, x4, u5.2.2.2)))) ∧ (¬ u2 = 114 → ((u2 = 115 → (wp_X9_puts mtext (upd mtold (x1).toNatClampNeg u2) mlength x3 mnumber (x1 + 1) 4 (fun u19 : Bool × Int32 × Int32 × XRow => post (u19.1, u19.2.1, u19.2.2.1, x4, u19.2.2.2)))) ∧ (¬ u2 = 115 → (wp_X9_puts mtext (upd mtold (x1).toNatClampNeg u2) mlength x3 mnumber (x1 + 1) 1 (fun u6 : Bool × Int32 × Int32 × XRow => (u6.1 = true → ((u2 = 102 → (wp_X9_skips mtext mlength u6.2.1 61 (fun u13 : Bool × Int32 => (u13.1 = true → (wp_X9_puts mtext u6.2.2.2 mlength u13.2 u6.2.2.1 (x1 + 2) 4 (fun u14 : Bool × Int32 × Int32 × XRow => (u14.1 = true → ((u2 = 102 → (post (true, u14.2.1, u14.2.2.1, x4, u14.2.2.2))) ∧ (¬ u2 = 102 → (wp_X9_skips mtext mlength u14.2.1 42 (fun u15 : Bool × Int32 => (u15.1 = true → (wp_X9_puts mtext u14.2.2.2 mlength u15.2 u14.2.2.1 (x1 + 3) 4 (fun u16 : Bool × Int32 × Int32 × XRow => (u16.1 = true → (wp_X9_skips mtext mlength u16.2.1 36 (fun u17 : Bool × Int32 => (u17.1 = true → (wp_X9_puts mtext u16.2.2.2 mlength u17.2 u16.2.2.1 (x1 + 4) 4 (fun u18 : Bool × Int32 × Int32 × XRow => (u18.1 = true → (post (true, u18.2.1, u18.2.2.1, x4, u18.2.2.2))) ∧ (u18.1 = false → (post (false, u18.2.1, u18.2.2.1, x4, u18.2.2.2)))))) ∧ (u17.1 = false → (post (false, u17.2, u16.2.2.1, x4, u16.2.2.2)))))) ∧ (u16.1 = false → (post (false, u16.2.1, u16.2.2.1, x4, u16.2.2.2)))))) ∧ (u15.1 = false → (post (false, u15.2, u14.2.2.1, x4, u14.2.2.2)))))))) ∧ (u14.1 = false → (post (false, u14.2.1, u14.2.2.1, x4, u14.2.2.2)))))) ∧ (u13.1 = false → (post (false, u13.2, u6.2.2.1, x4, u6.2.2.2)))))) ∧ (¬ u2 = 102 → (wp_X9_skips mtext mlength u6.2.1 64 (fun u7 : Bool × Int32 => (u7.1 = true → (wp_X9_puts mtext u6.2.2.2 mlength u7.2 u6.2.2.1 (x1 + 2) 4 (fun u8 : Bool × Int32 × Int32 × XRow => (u8.1 = true → ((u2 = 102 → (post (true, u8.2.1, u8.2.2.1, x4, u8.2.2.2))) ∧ (¬ u2 = 102 → (wp_X9_skips mtext mlength u8.2.1 42 (fun u9 : Bool × Int32 => (u9.1 = true → (wp_X9_puts mtext u8.2.2.2 mlength u9.2 u8.2.2.1 (x1 + 3) 4 (fun u10 : Bool × Int32 × Int32 × XRow => (u10.1 = true → (wp_X9_skips mtext mlength u10.2.1 36 (fun u11 : Bool × Int32 => (u11.1 = true → (wp_X9_puts mtext u10.2.2.2 mlength u11.2 u10.2.2.1 (x1 + 4) 4 (fun u12 : Bool × Int32 × Int32 × XRow => (u12.1 = true → (post (true, u12.2.1, u12.2.2.1, x4, u12.2.2.2))) ∧ (u12.1 = false → (post (false, u12.2.1, u12.2.2.1, x4, u12.2.2.2)))))) ∧ (u11.1 = false → (post (false, u11.2, u10.2.2.1, x4, u10.2.2.2)))))) ∧ (u10.1 = false → (post (false, u10.2.1, u10.2.2.1, x4, u10.2.2.2)))))) ∧ (u9.1 = false → (post (false, u9.2, u8.2.2.1, x4, u8.2.2.2)))))))) ∧ (u8.1 = false → (post (false, u8.2.1, u8.2.2.1, x4, u8.2.2.2)))))) ∧ (u7.1 = false → (post (false, u7.2, u6.2.2.1, x4, u6.2.2.2)))))))) ∧ (u6.1 = false → (post (false, u6.2.1, u6.2.2.1, x4, u6.2.2.2))))))))))))) ∧ (¬ u2 = 102 → ((u2 = 114 → (vp_in x1 200 ∧ (∀ x20 : Int32, x20 = mspot + 1 → (∀ x21 : Int32, x21 = mtolds + 1 → ((u2 = 114 → (wp_X9_puts mtext (upd mtold (x1).toNatClampNeg u2) mlength x20 mnumber (x1 + 1) 4 (fun u22 : Bool × Int32 × Int32 × XRow => post (u22.1, u22.2.1, u22.2.2.1, x21, u22.2.2.2)))) ∧ (¬ u2 = 114 → ((u2 = 115 → (wp_X9_puts mtext (upd mtold (x1).toNatClampNeg u2) mlength x20 mnumber (x1 + 1) 4 (fun u36 : Bool × Int32 × Int32 × XRow => post (u36.1, u36.2.1, u36.2.2.1, x21, u36.2.2.2)))) ∧ (¬ u2 = 115 → (wp_X9_puts mtext (upd mtold (x1).toNatClampNeg u2) mlength x20 mnumber (x1 + 1) 1 (fun u23 : Bool × Int32 × Int32 × XRow => (u23.1 = true → ((u2 = 102 → (wp_X9_skips mtext mlength u23.2.1 61 (fun u30 : Bool × Int32 => (u30.1 = true → (wp_X9_puts mtext u23.2.2.2 mlength u30.2 u23.2.2.1 (x1 + 2) 4 (fun u31 : Bool × Int32 × Int32 × XRow => (u31.1 = true → ((u2 = 102 → (post (true, u31.2.1, u31.2.2.1, x21, u31.2.2.2))) ∧ (¬ u2 = 102 → (wp_X9_skips mtext mlength u31.2.1 42 (fun u32 : Bool × Int32 => (u32.1 = true → (wp_X9_puts mtext u31.2.2.2 mlength u32.2 u31.2.2.1 (x1 + 3) 4 (fun u33 : Bool × Int32 × Int32 × XRow => (u33.1 = true → (wp_X9_skips mtext mlength u33.2.1 36 (fun u34 : Bool × Int32 => (u34.1 = true → (wp_X9_puts mtext u33.2.2.2 mlength u34.2 u33.2.2.1 (x1 + 4) 4 (fun u35 : Bool × Int32 × Int32 × XRow => (u35.1 = true → (post (true, u35.2.1, u35.2.2.1, x21, u35.2.2.2))) ∧ (u35.1 = false → (post (false, u35.2.1, u35.2.2.1, x21, u35.2.2.2)))))) ∧ (u34.1 = false → (post (false, u34.2, u33.2.2.1, x21, u33.2.2.2)))))) ∧ (u33.1 = false → (post (false, u33.2.1, u33.2.2.1, x21, u33.2.2.2)))))) ∧ (u32.1 = false → (post (false, u32.2, u31.2.2.1, x21, u31.2.2.2)))))))) ∧ (u31.1 = false → (post (false, u31.2.1, u31.2.2.1, x21, u31.2.2.2)))))) ∧ (u30.1 = false → (post (false, u30.2, u23.2.2.1, x21, u23.2.2.2)))))) ∧ (¬ u2 = 102 → (wp_X9_skips mtext mlength u23.2.1 64 (fun u24 : Bool × Int32 => (u24.1 = true → (wp_X9_puts mtext u23.2.2.2 mlength u24.2 u23.2.2.1 (x1 + 2) 4 (fun u25 : Bool × Int32 × Int32 × XRow => (u25.1 = true → ((u2 = 102 → (post (true, u25.2.1, u25.2.2.1, x21, u25.2.2.2))) ∧ (¬ u2 = 102 → (wp_X9_skips mtext mlength u25.2.1 42 (fun u26 : Bool × Int32 => (u26.1 = true → (wp_X9_puts mtext u25.2.2.2 mlength u26.2 u25.2.2.1 (x1 + 3) 4 (fun u27 : Bool × Int32 × Int32 × XRow => (u27.1 = true → (wp_X9_skips mtext mlength u27.2.1 36 (fun u28 : Bool × Int32 => (u28.1 = true → (wp_X9_puts mtext u27.2.2.2 mlength u28.2 u27.2.2.1 (x1 + 4) 4 (fun u29 : Bool × Int32 × Int32 × XRow => (u29.1 = true → (post (true, u29.2.1, u29.2.2.1, x21, u29.2.2.2))) ∧ (u29.1 = false → (post (false, u29.2.1, u29.2.2.1, x21, u29.2.2.2)))))) ∧ (u28.1 = false → (post (false, u28.2, u27.2.2.1, x21, u27.2.2.2)))))) ∧ (u27.1 = false → (post (false, u27.2.1, u27.2.2.1, x21, u27.2.2.2)))))) ∧ (u26.1 = false → (post (false, u26.2, u25.2.2.1, x21, u25.2.2.2)))))))) ∧ (u25.1 = false → (post (false, u25.2.1, u25.2.2.1, x21, u25.2.2.2)))))) ∧ (u24.1 = false → (post (false, u24.2, u23.2.2.1, x21, u23.2.2.2)))))))) ∧ (u23.1 = false → (post (false, u23.2.1, u23.2.2.1, x21, u23.2.2.2))))))))))))) ∧ (¬ u2 = 114 → ((u2 = 99 → (vp_in x1 200 ∧ (∀ x37 : Int32, x37 = mspot + 1 → (∀ x38 : Int32, x38 = mtolds + 1 → ((u2 = 114 → (wp_X9_puts mtext (upd mtold (x1).toNatClampNeg u2) mlength x37 mnumber (x1 + 1) 4 (fun u39 : Bool × Int32 × Int32 × XRow => post (u39.1, u39.2.1, u39.2.2.1, x38, u39.2.2.2)))) ∧ (¬ u2 = 114 → ((u2 = 115 → (wp_X9_puts mtext (upd mtold (x1).toNatClampNeg u2) mlength x37 mnumber (x1 + 1) 4 (fun u53 : Bool × Int32 × Int32 × XRow => post (u53.1, u53.2.1, u53.2.2.1, x38, u53.2.2.2)))) ∧ (¬ u2 = 115 → (wp_X9_puts mtext (upd mtold (x1).toNatClampNeg u2) mlength x37 mnumber (x1 + 1) 1 (fun u40 : Bool × Int32 × Int32 × XRow => (u40.1 = true → ((u2 = 102 → (wp_X9_skips mtext mlength u40.2.1 61 (fun u47 : Bool × Int32 => (u47.1 = true → (wp_X9_puts mtext u40.2.2.2 mlength u47.2 u40.2.2.1 (x1 + 2) 4 (fun u48 : Bool × Int32 × Int32 × XRow => (u48.1 = true → ((u2 = 102 → (post (true, u48.2.1, u48.2.2.1, x38, u48.2.2.2))) ∧ (¬ u2 = 102 → (wp_X9_skips mtext mlength u48.2.1 42 (fun u49 : Bool × Int32 => (u49.1 = true → (wp_X9_puts mtext u48.2.2.2 mlength u49.2 u48.2.2.1 (x1 + 3) 4 (fun u50 : Bool × Int32 × Int32 × XRow => (u50.1 = true → (wp_X9_skips mtext mlength u50.2.1 36 (fun u51 : Bool × Int32 => (u51.1 = true → (wp_X9_puts mtext u50.2.2.2 mlength u51.2 u50.2.2.1 (x1 + 4) 4 (fun u52 : Bool × Int32 × Int32 × XRow => (u52.1 = true → (post (true, u52.2.1, u52.2.2.1, x38, u52.2.2.2))) ∧ (u52.1 = false → (post (false, u52.2.1, u52.2.2.1, x38, u52.2.2.2)))))) ∧ (u51.1 = false → (post (false, u51.2, u50.2.2.1, x38, u50.2.2.2)))))) ∧ (u50.1 = false → (post (false, u50.2.1, u50.2.2.1, x38, u50.2.2.2)))))) ∧ (u49.1 = false → (post (false, u49.2, u48.2.2.1, x38, u48.2.2.2)))))))) ∧ (u48.1 = false → (post (false, u48.2.1, u48.2.2.1, x38, u48.2.2.2)))))) ∧ (u47.1 = false → (post (false, u47.2, u40.2.2.1, x38, u40.2.2.2)))))) ∧ (¬ u2 = 102 → (wp_X9_skips mtext mlength u40.2.1 64 (fun u41 : Bool × Int32 => (u41.1 = true → (wp_X9_puts mtext u40.2.2.2 mlength u41.2 u40.2.2.1 (x1 + 2) 4 (fun u42 : Bool × Int32 × Int32 × XRow => (u42.1 = true → ((u2 = 102 → (post (true, u42.2.1, u42.2.2.1, x38, u42.2.2.2))) ∧ (¬ u2 = 102 → (wp_X9_skips mtext mlength u42.2.1 42 (fun u43 : Bool × Int32 => (u43.1 = true → (wp_X9_puts mtext u42.2.2.2 mlength u43.2 u42.2.2.1 (x1 + 3) 4 (fun u44 : Bool × Int32 × Int32 × XRow => (u44.1 = true → (wp_X9_skips mtext mlength u44.2.1 36 (fun u45 : Bool × Int32 => (u45.1 = true → (wp_X9_puts mtext u44.2.2.2 mlength u45.2 u44.2.2.1 (x1 + 4) 4 (fun u46 : Bool × Int32 × Int32 × XRow => (u46.1 = true → (post (true, u46.2.1, u46.2.2.1, x38, u46.2.2.2))) ∧ (u46.1 = false → (post (false, u46.2.1, u46.2.2.1, x38, u46.2.2.2)))))) ∧ (u45.1 = false → (post (false, u45.2, u44.2.2.1, x38, u44.2.2.2)))))) ∧ (u44.1 = false → (post (false, u44.2.1, u44.2.2.1, x38, u44.2.2.2)))))) ∧ (u43.1 = false → (post (false, u43.2, u42.2.2.1, x38, u42.2.2.2)))))))) ∧ (u42.1 = false → (post (false, u42.2.1, u42.2.2.1, x38, u42.2.2.2)))))) ∧ (u41.1 = false → (post (false, u41.2, u40.2.2.1, x38, u40.2.2.2)))))))) ∧ (u40.1 = false → (post (false, u40.2.1, u40.2.2.1, x38, u40.2.2.2))))))))))))) ∧ (¬ u2 = 99 → ((u2 = 115 → (vp_in x1 200 ∧ (∀ x54 : Int32, x54 = mspot + 1 → (∀ x55 : Int32, x55 = mtolds + 1 → ((u2 = 114 → (wp_X9_puts mtext (upd mtold (x1).toNatClampNeg u2) mlength x54 mnumber (x1 + 1) 4 (fun u56 : Bool × Int32 × Int32 × XRow => post (u56.1, u56.2.1, u56.2.2.1, x55, u56.2.2.2)))) ∧ (¬ u2 = 114 → ((u2 = 115 → (wp_X9_puts mtext (upd mtold (x1).toNatClampNeg u2) mlength x54 mnumber (x1 + 1) 4 (fun u70 : Bool × Int32 × Int32 × XRow => post (u70.1, u70.2.1, u70.2.2.1, x55, u70.2.2.2)))) ∧ (¬ u2 = 115 → (wp_X9_puts mtext (upd mtold (x1).toNatClampNeg u2) mlength x54 mnumber (x1 + 1) 1 (fun u57 : Bool × Int32 × Int32 × XRow => (u57.1 = true → ((u2 = 102 → (wp_X9_skips mtext mlength u57.2.1 61 (fun u64 : Bool × Int32 => (u64.1 = true → (wp_X9_puts mtext u57.2.2.2 mlength u64.2 u57.2.2.1 (x1 + 2) 4 (fun u65 : Bool × Int32 × Int32 × XRow => (u65.1 = true → ((u2 = 102 → (post (true, u65.2.1, u65.2.2.1, x55, u65.2.2.2))) ∧ (¬ u2 = 102 → (wp_X9_skips mtext mlength u65.2.1 42 (fun u66 : Bool × Int32 => (u66.1 = true → (wp_X9_puts mtext u65.2.2.2 mlength u66.2 u65.2.2.1 (x1 + 3) 4 (fun u67 : Bool × Int32 × Int32 × XRow => (u67.1 = true → (wp_X9_skips mtext mlength u67.2.1 36 (fun u68 : Bool × Int32 => (u68.1 = true → (wp_X9_puts mtext u67.2.2.2 mlength u68.2 u67.2.2.1 (x1 + 4) 4 (fun u69 : Bool × Int32 × Int32 × XRow => (u69.1 = true → (post (true, u69.2.1, u69.2.2.1, x55, u69.2.2.2))) ∧ (u69.1 = false → (post (false, u69.2.1, u69.2.2.1, x55, u69.2.2.2)))))) ∧ (u68.1 = false → (post (false, u68.2, u67.2.2.1, x55, u67.2.2.2)))))) ∧ (u67.1 = false → (post (false, u67.2.1, u67.2.2.1, x55, u67.2.2.2)))))) ∧ (u66.1 = false → (post (false, u66.2, u65.2.2.1, x55, u65.2.2.2)))))))) ∧ (u65.1 = false → (post (false, u65.2.1, u65.2.2.1, x55, u65.2.2.2)))))) ∧ (u64.1 = false → (post (false, u64.2, u57.2.2.1, x55, u57.2.2.2)))))) ∧ (¬ u2 = 102 → (wp_X9_skips mtext mlength u57.2.1 64 (fun u58 : Bool × Int32 => (u58.1 = true → (wp_X9_puts mtext u57.2.2.2 mlength u58.2 u57.2.2.1 (x1 + 2) 4 (fun u59 : Bool × Int32 × Int32 × XRow => (u59.1 = true → ((u2 = 102 → (post (true, u59.2.1, u59.2.2.1, x55, u59.2.2.2))) ∧ (¬ u2 = 102 → (wp_X9_skips mtext mlength u59.2.1 42 (fun u60 : Bool × Int32 => (u60.1 = true → (wp_X9_puts mtext u59.2.2.2 mlength u60.2 u59.2.2.1 (x1 + 3) 4 (fun u61 : Bool × Int32 × Int32 × XRow => (u61.1 = true → (wp_X9_skips mtext mlength u61.2.1 36 (fun u62 : Bool × Int32 => (u62.1 = true → (wp_X9_puts mtext u61.2.2.2 mlength u62.2 u61.2.2.1 (x1 + 4) 4 (fun u63 : Bool × Int32 × Int32 × XRow => (u63.1 = true → (post (true, u63.2.1, u63.2.2.1, x55, u63.2.2.2))) ∧ (u63.1 = false → (post (false, u63.2.1, u63.2.2.1, x55, u63.2.2.2)))))) ∧ (u62.1 = false → (post (false, u62.2, u61.2.2.1, x55, u61.2.2.2)))))) ∧ (u61.1 = false → (post (false, u61.2.1, u61.2.2.1, x55, u61.2.2.2)))))) ∧ (u60.1 = false → (post (false, u60.2, u59.2.2.1, x55, u59.2.2.2)))))))) ∧ (u59.1 = false → (post (false, u59.2.1, u59.2.2.1, x55, u59.2.2.2)))))) ∧ (u58.1 = false → (post (false, u58.2, u57.2.2.1, x55, u57.2.2.2)))))))) ∧ (u57.1 = false → (post (false, u57.2.1, u57.2.2.1, x55, u57.2.2.2))))))))))))) ∧ (¬ u2 = 115 → (post (false, mspot, mnumber, mtolds, mtold)))))))))))
theorem in_X9_command_X9 : ∀ w ∈ u_ws RX9 TX9 22, w ∈ wsX9_command := by decide +kernel
set_option maxRecDepth 100000 in
set_option maxHeartbeats 4000000 in
theorem c_X9_command (l : Launch) (D : va_G) (cy : Nat → ClassId) (sd : xSd) (A : Nat → Nat) (mg : XRow) (mkept : XRow) (mspare : XRow) (mtrial : XRow) (mpast : XRow) (mreport : XRow) (mpart : XRow) (mcome : XRow) (morder : XRow) (mtext : XRow) (mtold : XRow) (mahead : XRow) (mhasKept : Int32) (mpasts : Int32) (mreports : Int32) (mthrown : Int32) (mordering : Int32) (mdetail : Int32) (mlength : Int32) (mspot : Int32) (mnumber : Int32) (mtolds : Int32) {post : (Bool × Int32 × Int32 × Int32 × XRow) → Prop} (hw : wp_X9_command mtext mtold mlength mspot mnumber mtolds post) : Ctr l D (xTys cy) sd yX9_command wsX9_command ({ frames := 3, cells := 0, slots := 0, locals := 67 } : Room) [.ref (A 0)] (fun u : Bool × Int32 × Int32 × Int32 × XRow => some (.int (bI u.1))) [((A 0), .inr (10, [.ref (A 1), .ref (A 2), .ref (A 3), .ref (A 4), .int mhasKept, .ref (A 5), .int mpasts, .ref (A 6), .int mreports, .int mthrown, .ref (A 7), .ref (A 8), .ref (A 9), .int mordering, .int mdetail, .ref (A 10), .int mlength, .int mspot, .int mnumber, .ref (A 11), .int mtolds, .ref (A 12)])), ((A 1), .inl (cy 0, 672, .inl mg)), ((A 2), .inl (cy 0, 672, .inl mkept)), ((A 3), .inl (cy 0, 672, .inl mspare)), ((A 4), .inl (cy 0, 672, .inl mtrial)), ((A 5), .inl (cy 0, 5376, .inl mpast)), ((A 6), .inl (cy 0, 6, .inl mreport)), ((A 7), .inl (cy 0, 5, .inl mpart)), ((A 8), .inl (cy 0, 5, .inl mcome)), ((A 9), .inl (cy 0, 60, .inl morder)), ((A 10), .inl (cy 0, 80, .inl mtext)), ((A 11), .inl (cy 0, 200, .inl mtold)), ((A 12), .inl (cy 0, 672, .inl mahead))] (fun u => [((A 0), .inr (10, [.ref (A 1), .ref (A 2), .ref (A 3), .ref (A 4), .int mhasKept, .ref (A 5), .int mpasts, .ref (A 6), .int mreports, .int mthrown, .ref (A 7), .ref (A 8), .ref (A 9), .int mordering, .int mdetail, .ref (A 10), .int mlength, .int u.2.1, .int u.2.2.1, .ref (A 11), .int u.2.2.2.1, .ref (A 12)])), ((A 1), .inl (cy 0, 672, .inl mg)), ((A 2), .inl (cy 0, 672, .inl mkept)), ((A 3), .inl (cy 0, 672, .inl mspare)), ((A 4), .inl (cy 0, 672, .inl mtrial)), ((A 5), .inl (cy 0, 5376, .inl mpast)), ((A 6), .inl (cy 0, 6, .inl mreport)), ((A 7), .inl (cy 0, 5, .inl mpart)), ((A 8), .inl (cy 0, 5, .inl mcome)), ((A 9), .inl (cy 0, 60, .inl morder)), ((A 10), .inl (cy 0, 80, .inl mtext)), ((A 11), .inl (cy 0, 200, .inl u.2.2.2.2)), ((A 12), .inl (cy 0, 672, .inl mahead))]) post := by
  refine Ctr.of (cc := cX9_command) (maxL := 3) (ret := (some .boolean)) (lv0 := [(0, .ref (A 0))]) (by decide) rfl (Nat.le_of_ble_eq_true rfl) rfl ?_
  intro X El hR Er Enm ED E En K
  have K : Cx X cX9_command RX9 wsX9_command (xTys cy) sd := K
  have E : X.2.2.2.2.2.2.2.2.2.2.1 = xMQ X (fun u : Bool × Int32 × Int32 × Int32 × XRow => some (.int (bI u.1))) post (fun u => [((A 0), .inr (10, [.ref (A 1), .ref (A 2), .ref (A 3), .ref (A 4), .int mhasKept, .ref (A 5), .int mpasts, .ref (A 6), .int mreports, .int mthrown, .ref (A 7), .ref (A 8), .ref (A 9), .int mordering, .int mdetail, .ref (A 10), .int mlength, .int u.2.1, .int u.2.2.1, .ref (A 11), .int u.2.2.2.1, .ref (A 12)])), ((A 1), .inl (cy 0, 672, .inl mg)), ((A 2), .inl (cy 0, 672, .inl mkept)), ((A 3), .inl (cy 0, 672, .inl mspare)), ((A 4), .inl (cy 0, 672, .inl mtrial)), ((A 5), .inl (cy 0, 5376, .inl mpast)), ((A 6), .inl (cy 0, 6, .inl mreport)), ((A 7), .inl (cy 0, 5, .inl mpart)), ((A 8), .inl (cy 0, 5, .inl mcome)), ((A 9), .inl (cy 0, 60, .inl morder)), ((A 10), .inl (cy 0, 80, .inl mtext)), ((A 11), .inl (cy 0, 200, .inl u.2.2.2.2)), ((A 12), .inl (cy 0, 672, .inl mahead))]) 0 0 := E
  unfold wp_X9_command at hw
  refine g_iconst (v := 5) K dX9_command_0 rfl ?_
  refine g_aload_n K 0 dX9_command_1 rfl ?_
  refine g_get K (C := RX9) (T := TX9) (N := 22) 0 20 in_X9_command_X9 (by decide +kernel) rfl rfl (by decide) rfl dX9_command_2 ?_
  refine g_imul K dX9_command_5 ?_
  refine g_topi (fun x1 ex1 => ?_)
  replace hw := hw x1 ex1
  refine g_istore_n (lv' := [(1, .int x1), (0, .ref (A 0))]) K dX9_command_6 rfl (by rw [En]; decide) rfl ?_
  refine g_aload_n K 1 dX9_command_7 rfl ?_
  refine g_callVr (st' := fun u2 => [.int u2]) K hR [] [] 0 rfl rfl (c_X9_here X.2.1 (gxD X) cy sd A mg mkept mspare mtrial mpast mreport mpart mcome morder mtext mtold mahead mhasKept mpasts mreports mthrown mordering mdetail mlength mspot mnumber mtolds hw) gX9_command_X9_here rfl yok_X9_here rfl rfl (by decide) rfl (Nat.le_of_ble_eq_true rfl) dX9_command_8 [0, 1, 2, 3, 4, 5, 6, 7, 8, 9, 10, 11, 12] rfl (by decide) (fun _ => rfl) ⟨rfl, rfl⟩ (fun u2 hw => ?_)
  refine g_istore_n (lv' := [(2, .int u2), (1, .int x1), (0, .ref (A 0))]) K dX9_command_11 rfl (by rw [En]; decide) rfl ?_
  refine g_iload_n K 0 dX9_command_12 rfl ?_
  refine g_bipush (v := 102) K dX9_command_13 rfl ?_
  refine g_icmp_eq (tgt := 38) K dX9_command_15 (by decide) (fun hc => ?_) (fun hc => ?_)
  · replace hw := hw.1 hc
    refine g_aload_n K 2 dX9_command_38 rfl ?_
    refine g_get K (C := RX9) (T := TX9) (N := 22) 0 19 in_X9_command_X9 (by decide +kernel) rfl rfl (by decide) rfl dX9_command_39 ?_
    refine g_iload_n K 1 dX9_command_42 rfl ?_
    refine g_iload_n K 0 dX9_command_43 rfl ?_
    refine g_iast (ws' := [((A 0), .inr (10, [.ref (A 1), .ref (A 2), .ref (A 3), .ref (A 4), .int mhasKept, .ref (A 5), .int mpasts, .ref (A 6), .int mreports, .int mthrown, .ref (A 7), .ref (A 8), .ref (A 9), .int mordering, .int mdetail, .ref (A 10), .int mlength, .int mspot, .int mnumber, .ref (A 11), .int mtolds, .ref (A 12)])), ((A 1), .inl (cy 0, 672, .inl mg)), ((A 2), .inl (cy 0, 672, .inl mkept)), ((A 3), .inl (cy 0, 672, .inl mspare)), ((A 4), .inl (cy 0, 672, .inl mtrial)), ((A 5), .inl (cy 0, 5376, .inl mpast)), ((A 6), .inl (cy 0, 6, .inl mreport)), ((A 7), .inl (cy 0, 5, .inl mpart)), ((A 8), .inl (cy 0, 5, .inl mcome)), ((A 9), .inl (cy 0, 60, .inl morder)), ((A 10), .inl (cy 0, 80, .inl mtext)), ((A 11), .inl (cy 0, 200, .inl (upd mtold (x1).toNatClampNeg u2))), ((A 12), .inl (cy 0, 672, .inl mahead))]) K 11 0 rfl rfl hw.1 rfl dX9_command_44 ?_
    replace hw := hw.2
    refine g_aload_n K 2 dX9_command_45 rfl ?_
    refine g_dup K dX9_command_46 rfl ?_
    refine g_get K (C := RX9) (T := TX9) (N := 22) 0 17 in_X9_command_X9 (by decide +kernel) rfl rfl (by decide) rfl dX9_command_47 ?_
    refine g_iconst (v := 1) K dX9_command_50 rfl ?_
    refine g_iadd K dX9_command_51 ?_
    refine g_topi (fun x3 ex3 => ?_)
    replace hw := hw x3 ex3
    refine g_put (ty := .int) (ws' := [((A 0), .inr (10, [.ref (A 1), .ref (A 2), .ref (A 3), .ref (A 4), .int mhasKept, .ref (A 5), .int mpasts, .ref (A 6), .int mreports, .int mthrown, .ref (A 7), .ref (A 8), .ref (A 9), .int mordering, .int mdetail, .ref (A 10), .int mlength, .int x3, .int mnumber, .ref (A 11), .int mtolds, .ref (A 12)])), ((A 1), .inl (cy 0, 672, .inl mg)), ((A 2), .inl (cy 0, 672, .inl mkept)), ((A 3), .inl (cy 0, 672, .inl mspare)), ((A 4), .inl (cy 0, 672, .inl mtrial)), ((A 5), .inl (cy 0, 5376, .inl mpast)), ((A 6), .inl (cy 0, 6, .inl mreport)), ((A 7), .inl (cy 0, 5, .inl mpart)), ((A 8), .inl (cy 0, 5, .inl mcome)), ((A 9), .inl (cy 0, 60, .inl morder)), ((A 10), .inl (cy 0, 80, .inl mtext)), ((A 11), .inl (cy 0, 200, .inl (upd mtold (x1).toNatClampNeg u2))), ((A 12), .inl (cy 0, 672, .inl mahead))]) K (C := RX9) (T := TX9) (N := 22) 0 17 in_X9_command_X9 tyX9 tyX9_ok nmX9 (by decide +kernel) rfl rfl (by decide) rfl (by decide +kernel) rfl rfl (Nat.le_of_ble_eq_true rfl) rfl dX9_command_52 ?_
    refine g_aload_n K 2 dX9_command_55 rfl ?_
    refine g_dup K dX9_command_56 rfl ?_
    refine g_get K (C := RX9) (T := TX9) (N := 22) 0 20 in_X9_command_X9 (by decide +kernel) rfl rfl (by decide) rfl dX9_command_57 ?_
    refine g_iconst (v := 1) K dX9_command_60 rfl ?_
    refine g_iadd K dX9_command_61 ?_
    refine g_topi (fun x4 ex4 => ?_)
    replace hw := hw x4 ex4
    refine g_put (ty := .int) (ws' := [((A 0), .inr (10, [.ref (A 1), .ref (A 2), .ref (A 3), .ref (A 4), .int mhasKept, .ref (A 5), .int mpasts, .ref (A 6), .int mreports, .int mthrown, .ref (A 7), .ref (A 8), .ref (A 9), .int mordering, .int mdetail, .ref (A 10), .int mlength, .int x3, .int mnumber, .ref (A 11), .int x4, .ref (A 12)])), ((A 1), .inl (cy 0, 672, .inl mg)), ((A 2), .inl (cy 0, 672, .inl mkept)), ((A 3), .inl (cy 0, 672, .inl mspare)), ((A 4), .inl (cy 0, 672, .inl mtrial)), ((A 5), .inl (cy 0, 5376, .inl mpast)), ((A 6), .inl (cy 0, 6, .inl mreport)), ((A 7), .inl (cy 0, 5, .inl mpart)), ((A 8), .inl (cy 0, 5, .inl mcome)), ((A 9), .inl (cy 0, 60, .inl morder)), ((A 10), .inl (cy 0, 80, .inl mtext)), ((A 11), .inl (cy 0, 200, .inl (upd mtold (x1).toNatClampNeg u2))), ((A 12), .inl (cy 0, 672, .inl mahead))]) K (C := RX9) (T := TX9) (N := 22) 0 20 in_X9_command_X9 tyX9 tyX9_ok nmX9 (by decide +kernel) rfl rfl (by decide) rfl (by decide +kernel) rfl rfl (Nat.le_of_ble_eq_true rfl) rfl dX9_command_62 ?_
    refine g_iload_n K 0 dX9_command_65 rfl ?_
    refine g_bipush (v := 114) K dX9_command_66 rfl ?_
    refine g_icmp_eq (tgt := 77) K dX9_command_68 (by decide) (fun hc => ?_) (fun hc => ?_)
    · replace hw := hw.1 hc
      refine g_aload_n K 2 dX9_command_77 rfl ?_
      refine g_iload_n K 1 dX9_command_78 rfl ?_
      refine g_iconst (v := 1) K dX9_command_79 rfl ?_
      refine g_iadd K dX9_command_80 ?_
      refine g_iconst (v := 4) K dX9_command_81 rfl ?_
      refine g_callV (st' := fun u5 => [.int (bI u5.1)]) (ws' := fun u5 => [((A 0), .inr (10, [.ref (A 1), .ref (A 2), .ref (A 3), .ref (A 4), .int mhasKept, .ref (A 5), .int mpasts, .ref (A 6), .int mreports, .int mthrown, .ref (A 7), .ref (A 8), .ref (A 9), .int mordering, .int mdetail, .ref (A 10), .int mlength, .int u5.2.1, .int u5.2.2.1, .ref (A 11), .int x4, .ref (A 12)])), ((A 1), .inl (cy 0, 672, .inl mg)), ((A 2), .inl (cy 0, 672, .inl mkept)), ((A 3), .inl (cy 0, 672, .inl mspare)), ((A 4), .inl (cy 0, 672, .inl mtrial)), ((A 5), .inl (cy 0, 5376, .inl mpast)), ((A 6), .inl (cy 0, 6, .inl mreport)), ((A 7), .inl (cy 0, 5, .inl mpart)), ((A 8), .inl (cy 0, 5, .inl mcome)), ((A 9), .inl (cy 0, 60, .inl morder)), ((A 10), .inl (cy 0, 80, .inl mtext)), ((A 11), .inl (cy 0, 200, .inl u5.2.2.2)), ((A 12), .inl (cy 0, 672, .inl mahead))]) K hR [.int (x1 + 1), .int 4] [] 0 rfl rfl (c_X9_puts X.2.1 (gxD X) cy sd A mg mkept mspare mtrial mpast mreport mpart mcome morder mtext (upd mtold (x1).toNatClampNeg u2) mahead mhasKept mpasts mreports mthrown mordering mdetail mlength x3 mnumber x4 (x1 + 1) 4 hw) gX9_command_X9_puts rfl yok_X9_puts rfl rfl (by decide) rfl (Nat.le_of_ble_eq_true rfl) dX9_command_82 [0, 1, 2, 3, 4, 5, 6, 7, 8, 9, 10, 11, 12] rfl (by decide) (fun _ => rfl) (fun _ => rfl) (fun _ => rfl) ⟨rfl, rfl⟩ (fun u5 hw => ?_)
      exact g_zret K E Er (u5.1, u5.2.1, u5.2.2.1, x4, u5.2.2.2) hw rfl (bI_narrow _) rfl (Nat.le_refl _) (Nat.le_refl _) dX9_command_85
    · replace hw := hw.2 hc
      refine g_iload_n K 0 dX9_command_71 rfl ?_
      refine g_bipush (v := 115) K dX9_command_72 rfl ?_
      refine g_icmp_ne (tgt := 86) K dX9_command_74 (by decide) (fun hc => ?_) (fun hc => ?_)
      · replace hw := hw.2 hc
        refine g_aload_n K 2 dX9_command_86 rfl ?_
        refine g_iload_n K 1 dX9_command_87 rfl ?_
        refine g_iconst (v := 1) K dX9_command_88 rfl ?_
        refine g_iadd K dX9_command_89 ?_
        refine g_iconst (v := 1) K dX9_command_90 rfl ?_
        refine g_callV (st' := fun u6 => [.int (bI u6.1)]) (ws' := fun u6 => [((A 0), .inr (10, [.ref (A 1), .ref (A 2), .ref (A 3), .ref (A 4), .int mhasKept, .ref (A 5), .int mpasts, .ref (A 6), .int mreports, .int mthrown, .ref (A 7), .ref (A 8), .ref (A 9), .int mordering, .int mdetail, .ref (A 10), .int mlength, .int u6.2.1, .int u6.2.2.1, .ref (A 11), .int x4, .ref (A 12)])), ((A 1), .inl (cy 0, 672, .inl mg)), ((A 2), .inl (cy 0, 672, .inl mkept)), ((A 3), .inl (cy 0, 672, .inl mspare)), ((A 4), .inl (cy 0, 672, .inl mtrial)), ((A 5), .inl (cy 0, 5376, .inl mpast)), ((A 6), .inl (cy 0, 6, .inl mreport)), ((A 7), .inl (cy 0, 5, .inl mpart)), ((A 8), .inl (cy 0, 5, .inl mcome)), ((A 9), .inl (cy 0, 60, .inl morder)), ((A 10), .inl (cy 0, 80, .inl mtext)), ((A 11), .inl (cy 0, 200, .inl u6.2.2.2)), ((A 12), .inl (cy 0, 672, .inl mahead))]) K hR [.int (x1 + 1), .int 1] [] 0 rfl rfl (c_X9_puts X.2.1 (gxD X) cy sd A mg mkept mspare mtrial mpast mreport mpart mcome morder mtext (upd mtold (x1).toNatClampNeg u2) mahead mhasKept mpasts mreports mthrown mordering mdetail mlength x3 mnumber x4 (x1 + 1) 1 hw) gX9_command_X9_puts rfl yok_X9_puts rfl rfl (by decide) rfl (Nat.le_of_ble_eq_true rfl) dX9_command_91 [0, 1, 2, 3, 4, 5, 6, 7, 8, 9, 10, 11, 12] rfl (by decide) (fun _ => rfl) (fun _ => rfl) (fun _ => rfl) ⟨rfl, rfl⟩ (fun u6 hw => ?_)
        refine g_ifb_eq (tgt := 128) K dX9_command_94 (by decide) (fun hc => ?_) (fun hc => ?_)
        · replace hw := hw.2 hc
          refine g_iconst (v := 0) K dX9_command_128 rfl ?_
          exact g_zret K E Er (false, u6.2.1, u6.2.2.1, x4, u6.2.2.2) hw rfl rfl rfl (Nat.le_refl _) (Nat.le_refl _) dX9_command_129
        · replace hw := hw.1 hc
          refine g_aload_n K 2 dX9_command_97 rfl ?_
          refine g_iload_n K 0 dX9_command_98 rfl ?_
          refine g_bipush (v := 102) K dX9_command_99 rfl ?_
          refine g_icmp_ne (tgt := 109) K dX9_command_101 (by decide) (fun hc => ?_) (fun hc => ?_)
          · replace hw := hw.2 hc
            refine g_bipush (v := 64) K dX9_command_109 rfl ?_
            refine g_callV (st' := fun u7 => [.int (bI u7.1)]) (ws' := fun u7 => [((A 0), .inr (10, [.ref (A 1), .ref (A 2), .ref (A 3), .ref (A 4), .int mhasKept, .ref (A 5), .int mpasts, .ref (A 6), .int mreports, .int mthrown, .ref (A 7), .ref (A 8), .ref (A 9), .int mordering, .int mdetail, .ref (A 10), .int mlength, .int u7.2, .int u6.2.2.1, .ref (A 11), .int x4, .ref (A 12)])), ((A 1), .inl (cy 0, 672, .inl mg)), ((A 2), .inl (cy 0, 672, .inl mkept)), ((A 3), .inl (cy 0, 672, .inl mspare)), ((A 4), .inl (cy 0, 672, .inl mtrial)), ((A 5), .inl (cy 0, 5376, .inl mpast)), ((A 6), .inl (cy 0, 6, .inl mreport)), ((A 7), .inl (cy 0, 5, .inl mpart)), ((A 8), .inl (cy 0, 5, .inl mcome)), ((A 9), .inl (cy 0, 60, .inl morder)), ((A 10), .inl (cy 0, 80, .inl mtext)), ((A 11), .inl (cy 0, 200, .inl u6.2.2.2)), ((A 12), .inl (cy 0, 672, .inl mahead))]) K hR [.int 64] [] 0 rfl rfl (c_X9_skips X.2.1 (gxD X) cy sd A mg mkept mspare mtrial mpast mreport mpart mcome morder mtext u6.2.2.2 mahead mhasKept mpasts mreports mthrown mordering mdetail mlength u6.2.1 u6.2.2.1 x4 64 hw) gX9_command_X9_skips rfl yok_X9_skips rfl rfl (by decide) rfl (Nat.le_of_ble_eq_true rfl) dX9_command_111 [0, 1, 2, 3, 4, 5, 6, 7, 8, 9, 10, 11, 12] rfl (by decide) (fun _ => rfl) (fun _ => rfl) (fun _ => rfl) ⟨rfl, rfl⟩ (fun u7 hw => ?_)
            refine g_ifb_eq (tgt := 128) K dX9_command_114 (by decide) (fun hc => ?_) (fun hc => ?_)
            · replace hw := hw.2 hc
              refine g_iconst (v := 0) K dX9_command_128 rfl ?_
              exact g_zret K E Er (false, u7.2, u6.2.2.1, x4, u6.2.2.2) hw rfl rfl rfl (Nat.le_refl _) (Nat.le_refl _) dX9_command_129
            · replace hw := hw.1 hc
              refine g_aload_n K 2 dX9_command_117 rfl ?_
              refine g_iload_n K 1 dX9_command_118 rfl ?_
              refine g_iconst (v := 2) K dX9_command_119 rfl ?_
              refine g_iadd K dX9_command_120 ?_
              refine g_iconst (v := 4) K dX9_command_121 rfl ?_
              refine g_callV (st' := fun u8 => [.int (bI u8.1)]) (ws' := fun u8 => [((A 0), .inr (10, [.ref (A 1), .ref (A 2), .ref (A 3), .ref (A 4), .int mhasKept, .ref (A 5), .int mpasts, .ref (A 6), .int mreports, .int mthrown, .ref (A 7), .ref (A 8), .ref (A 9), .int mordering, .int mdetail, .ref (A 10), .int mlength, .int u8.2.1, .int u8.2.2.1, .ref (A 11), .int x4, .ref (A 12)])), ((A 1), .inl (cy 0, 672, .inl mg)), ((A 2), .inl (cy 0, 672, .inl mkept)), ((A 3), .inl (cy 0, 672, .inl mspare)), ((A 4), .inl (cy 0, 672, .inl mtrial)), ((A 5), .inl (cy 0, 5376, .inl mpast)), ((A 6), .inl (cy 0, 6, .inl mreport)), ((A 7), .inl (cy 0, 5, .inl mpart)), ((A 8), .inl (cy 0, 5, .inl mcome)), ((A 9), .inl (cy 0, 60, .inl morder)), ((A 10), .inl (cy 0, 80, .inl mtext)), ((A 11), .inl (cy 0, 200, .inl u8.2.2.2)), ((A 12), .inl (cy 0, 672, .inl mahead))]) K hR [.int (x1 + 2), .int 4] [] 0 rfl rfl (c_X9_puts X.2.1 (gxD X) cy sd A mg mkept mspare mtrial mpast mreport mpart mcome morder mtext u6.2.2.2 mahead mhasKept mpasts mreports mthrown mordering mdetail mlength u7.2 u6.2.2.1 x4 (x1 + 2) 4 hw) gX9_command_X9_puts rfl yok_X9_puts rfl rfl (by decide) rfl (Nat.le_of_ble_eq_true rfl) dX9_command_122 [0, 1, 2, 3, 4, 5, 6, 7, 8, 9, 10, 11, 12] rfl (by decide) (fun _ => rfl) (fun _ => rfl) (fun _ => rfl) ⟨rfl, rfl⟩ (fun u8 hw => ?_)
              refine g_ifb_ne (tgt := 130) K dX9_command_125 (by decide) (fun hc => ?_) (fun hc => ?_)
              · replace hw := hw.1 hc
                refine g_iload_n K 0 dX9_command_130 rfl ?_
                refine g_bipush (v := 102) K dX9_command_131 rfl ?_
                refine g_icmp_eq (tgt := 176) K dX9_command_133 (by decide) (fun hc => ?_) (fun hc => ?_)
                · replace hw := hw.1 hc
                  refine g_iconst (v := 1) K dX9_command_176 rfl ?_
                  refine g_goto (tgt := 181) K dX9_command_177 (by decide) ?_
                  exact g_zret K E Er (true, u8.2.1, u8.2.2.1, x4, u8.2.2.2) hw rfl rfl rfl (Nat.le_refl _) (Nat.le_refl _) dX9_command_181
                · replace hw := hw.2 hc
                  refine g_aload_n K 2 dX9_command_136 rfl ?_
                  refine g_bipush (v := 42) K dX9_command_137 rfl ?_
                  refine g_callV (st' := fun u9 => [.int (bI u9.1)]) (ws' := fun u9 => [((A 0), .inr (10, [.ref (A 1), .ref (A 2), .ref (A 3), .ref (A 4), .int mhasKept, .ref (A 5), .int mpasts, .ref (A 6), .int mreports, .int mthrown, .ref (A 7), .ref (A 8), .ref (A 9), .int mordering, .int mdetail, .ref (A 10), .int mlength, .int u9.2, .int u8.2.2.1, .ref (A 11), .int x4, .ref (A 12)])), ((A 1), .inl (cy 0, 672, .inl mg)), ((A 2), .inl (cy 0, 672, .inl mkept)), ((A 3), .inl (cy 0, 672, .inl mspare)), ((A 4), .inl (cy 0, 672, .inl mtrial)), ((A 5), .inl (cy 0, 5376, .inl mpast)), ((A 6), .inl (cy 0, 6, .inl mreport)), ((A 7), .inl (cy 0, 5, .inl mpart)), ((A 8), .inl (cy 0, 5, .inl mcome)), ((A 9), .inl (cy 0, 60, .inl morder)), ((A 10), .inl (cy 0, 80, .inl mtext)), ((A 11), .inl (cy 0, 200, .inl u8.2.2.2)), ((A 12), .inl (cy 0, 672, .inl mahead))]) K hR [.int 42] [] 0 rfl rfl (c_X9_skips X.2.1 (gxD X) cy sd A mg mkept mspare mtrial mpast mreport mpart mcome morder mtext u8.2.2.2 mahead mhasKept mpasts mreports mthrown mordering mdetail mlength u8.2.1 u8.2.2.1 x4 42 hw) gX9_command_X9_skips rfl yok_X9_skips rfl rfl (by decide) rfl (Nat.le_of_ble_eq_true rfl) dX9_command_139 [0, 1, 2, 3, 4, 5, 6, 7, 8, 9, 10, 11, 12] rfl (by decide) (fun _ => rfl) (fun _ => rfl) (fun _ => rfl) ⟨rfl, rfl⟩ (fun u9 hw => ?_)
                  refine g_ifb_eq (tgt := 180) K dX9_command_142 (by decide) (fun hc => ?_) (fun hc => ?_)
                  · replace hw := hw.2 hc
                    refine g_iconst (v := 0) K dX9_command_180 rfl ?_
                    exact g_zret K E Er (false, u9.2, u8.2.2.1, x4, u8.2.2.2) hw rfl rfl rfl (Nat.le_refl _) (Nat.le_refl _) dX9_command_181
                  · replace hw := hw.1 hc
                    refine g_aload_n K 2 dX9_command_145 rfl ?_
                    refine g_iload_n K 1 dX9_command_146 rfl ?_
                    refine g_iconst (v := 3) K dX9_command_147 rfl ?_
                    refine g_iadd K dX9_command_148 ?_
                    refine g_iconst (v := 4) K dX9_command_149 rfl ?_
                    refine g_callV (st' := fun u10 => [.int (bI u10.1)]) (ws' := fun u10 => [((A 0), .inr (10, [.ref (A 1), .ref (A 2), .ref (A 3), .ref (A 4), .int mhasKept, .ref (A 5), .int mpasts, .ref (A 6), .int mreports, .int mthrown, .ref (A 7), .ref (A 8), .ref (A 9), .int mordering, .int mdetail, .ref (A 10), .int mlength, .int u10.2.1, .int u10.2.2.1, .ref (A 11), .int x4, .ref (A 12)])), ((A 1), .inl (cy 0, 672, .inl mg)), ((A 2), .inl (cy 0, 672, .inl mkept)), ((A 3), .inl (cy 0, 672, .inl mspare)), ((A 4), .inl (cy 0, 672, .inl mtrial)), ((A 5), .inl (cy 0, 5376, .inl mpast)), ((A 6), .inl (cy 0, 6, .inl mreport)), ((A 7), .inl (cy 0, 5, .inl mpart)), ((A 8), .inl (cy 0, 5, .inl mcome)), ((A 9), .inl (cy 0, 60, .inl morder)), ((A 10), .inl (cy 0, 80, .inl mtext)), ((A 11), .inl (cy 0, 200, .inl u10.2.2.2)), ((A 12), .inl (cy 0, 672, .inl mahead))]) K hR [.int (x1 + 3), .int 4] [] 0 rfl rfl (c_X9_puts X.2.1 (gxD X) cy sd A mg mkept mspare mtrial mpast mreport mpart mcome morder mtext u8.2.2.2 mahead mhasKept mpasts mreports mthrown mordering mdetail mlength u9.2 u8.2.2.1 x4 (x1 + 3) 4 hw) gX9_command_X9_puts rfl yok_X9_puts rfl rfl (by decide) rfl (Nat.le_of_ble_eq_true rfl) dX9_command_150 [0, 1, 2, 3, 4, 5, 6, 7, 8, 9, 10, 11, 12] rfl (by decide) (fun _ => rfl) (fun _ => rfl) (fun _ => rfl) ⟨rfl, rfl⟩ (fun u10 hw => ?_)
                    refine g_ifb_eq (tgt := 180) K dX9_command_153 (by decide) (fun hc => ?_) (fun hc => ?_)
                    · replace hw := hw.2 hc
                      refine g_iconst (v := 0) K dX9_command_180 rfl ?_
                      exact g_zret K E Er (false, u10.2.1, u10.2.2.1, x4, u10.2.2.2) hw rfl rfl rfl (Nat.le_refl _) (Nat.le_refl _) dX9_command_181
                    · replace hw := hw.1 hc
                      refine g_aload_n K 2 dX9_command_156 rfl ?_
                      refine g_bipush (v := 36) K dX9_command_157 rfl ?_
                      refine g_callV (st' := fun u11 => [.int (bI u11.1)]) (ws' := fun u11 => [((A 0), .inr (10, [.ref (A 1), .ref (A 2), .ref (A 3), .ref (A 4), .int mhasKept, .ref (A 5), .int mpasts, .ref (A 6), .int mreports, .int mthrown, .ref (A 7), .ref (A 8), .ref (A 9), .int mordering, .int mdetail, .ref (A 10), .int mlength, .int u11.2, .int u10.2.2.1, .ref (A 11), .int x4, .ref (A 12)])), ((A 1), .inl (cy 0, 672, .inl mg)), ((A 2), .inl (cy 0, 672, .inl mkept)), ((A 3), .inl (cy 0, 672, .inl mspare)), ((A 4), .inl (cy 0, 672, .inl mtrial)), ((A 5), .inl (cy 0, 5376, .inl mpast)), ((A 6), .inl (cy 0, 6, .inl mreport)), ((A 7), .inl (cy 0, 5, .inl mpart)), ((A 8), .inl (cy 0, 5, .inl mcome)), ((A 9), .inl (cy 0, 60, .inl morder)), ((A 10), .inl (cy 0, 80, .inl mtext)), ((A 11), .inl (cy 0, 200, .inl u10.2.2.2)), ((A 12), .inl (cy 0, 672, .inl mahead))]) K hR [.int 36] [] 0 rfl rfl (c_X9_skips X.2.1 (gxD X) cy sd A mg mkept mspare mtrial mpast mreport mpart mcome morder mtext u10.2.2.2 mahead mhasKept mpasts mreports mthrown mordering mdetail mlength u10.2.1 u10.2.2.1 x4 36 hw) gX9_command_X9_skips rfl yok_X9_skips rfl rfl (by decide) rfl (Nat.le_of_ble_eq_true rfl) dX9_command_159 [0, 1, 2, 3, 4, 5, 6, 7, 8, 9, 10, 11, 12] rfl (by decide) (fun _ => rfl) (fun _ => rfl) (fun _ => rfl) ⟨rfl, rfl⟩ (fun u11 hw => ?_)
                      refine g_ifb_eq (tgt := 180) K dX9_command_162 (by decide) (fun hc => ?_) (fun hc => ?_)
                      · replace hw := hw.2 hc
                        refine g_iconst (v := 0) K dX9_command_180 rfl ?_
                        exact g_zret K E Er (false, u11.2, u10.2.2.1, x4, u10.2.2.2) hw rfl rfl rfl (Nat.le_refl _) (Nat.le_refl _) dX9_command_181
                      · replace hw := hw.1 hc
                        refine g_aload_n K 2 dX9_command_165 rfl ?_
                        refine g_iload_n K 1 dX9_command_166 rfl ?_
                        refine g_iconst (v := 4) K dX9_command_167 rfl ?_
                        refine g_iadd K dX9_command_168 ?_
                        refine g_iconst (v := 4) K dX9_command_169 rfl ?_
                        refine g_callV (st' := fun u12 => [.int (bI u12.1)]) (ws' := fun u12 => [((A 0), .inr (10, [.ref (A 1), .ref (A 2), .ref (A 3), .ref (A 4), .int mhasKept, .ref (A 5), .int mpasts, .ref (A 6), .int mreports, .int mthrown, .ref (A 7), .ref (A 8), .ref (A 9), .int mordering, .int mdetail, .ref (A 10), .int mlength, .int u12.2.1, .int u12.2.2.1, .ref (A 11), .int x4, .ref (A 12)])), ((A 1), .inl (cy 0, 672, .inl mg)), ((A 2), .inl (cy 0, 672, .inl mkept)), ((A 3), .inl (cy 0, 672, .inl mspare)), ((A 4), .inl (cy 0, 672, .inl mtrial)), ((A 5), .inl (cy 0, 5376, .inl mpast)), ((A 6), .inl (cy 0, 6, .inl mreport)), ((A 7), .inl (cy 0, 5, .inl mpart)), ((A 8), .inl (cy 0, 5, .inl mcome)), ((A 9), .inl (cy 0, 60, .inl morder)), ((A 10), .inl (cy 0, 80, .inl mtext)), ((A 11), .inl (cy 0, 200, .inl u12.2.2.2)), ((A 12), .inl (cy 0, 672, .inl mahead))]) K hR [.int (x1 + 4), .int 4] [] 0 rfl rfl (c_X9_puts X.2.1 (gxD X) cy sd A mg mkept mspare mtrial mpast mreport mpart mcome morder mtext u10.2.2.2 mahead mhasKept mpasts mreports mthrown mordering mdetail mlength u11.2 u10.2.2.1 x4 (x1 + 4) 4 hw) gX9_command_X9_puts rfl yok_X9_puts rfl rfl (by decide) rfl (Nat.le_of_ble_eq_true rfl) dX9_command_170 [0, 1, 2, 3, 4, 5, 6, 7, 8, 9, 10, 11, 12] rfl (by decide) (fun _ => rfl) (fun _ => rfl) (fun _ => rfl) ⟨rfl, rfl⟩ (fun u12 hw => ?_)
                        refine g_ifb_eq (tgt := 180) K dX9_command_173 (by decide) (fun hc => ?_) (fun hc => ?_)
                        · replace hw := hw.2 hc
                          refine g_iconst (v := 0) K dX9_command_180 rfl ?_
                          exact g_zret K E Er (false, u12.2.1, u12.2.2.1, x4, u12.2.2.2) hw rfl rfl rfl (Nat.le_refl _) (Nat.le_refl _) dX9_command_181
                        · replace hw := hw.1 hc
                          refine g_iconst (v := 1) K dX9_command_176 rfl ?_
                          refine g_goto (tgt := 181) K dX9_command_177 (by decide) ?_
                          exact g_zret K E Er (true, u12.2.1, u12.2.2.1, x4, u12.2.2.2) hw rfl rfl rfl (Nat.le_refl _) (Nat.le_refl _) dX9_command_181
              · replace hw := hw.2 hc
                refine g_iconst (v := 0) K dX9_command_128 rfl ?_
                exact g_zret K E Er (false, u8.2.1, u8.2.2.1, x4, u8.2.2.2) hw rfl rfl rfl (Nat.le_refl _) (Nat.le_refl _) dX9_command_129
          · replace hw := hw.1 hc
            refine g_bipush (v := 61) K dX9_command_104 rfl ?_
            refine g_goto (tgt := 111) K dX9_command_106 (by decide) ?_
            refine g_callV (st' := fun u13 => [.int (bI u13.1)]) (ws' := fun u13 => [((A 0), .inr (10, [.ref (A 1), .ref (A 2), .ref (A 3), .ref (A 4), .int mhasKept, .ref (A 5), .int mpasts, .ref (A 6), .int mreports, .int mthrown, .ref (A 7), .ref (A 8), .ref (A 9), .int mordering, .int mdetail, .ref (A 10), .int mlength, .int u13.2, .int u6.2.2.1, .ref (A 11), .int x4, .ref (A 12)])), ((A 1), .inl (cy 0, 672, .inl mg)), ((A 2), .inl (cy 0, 672, .inl mkept)), ((A 3), .inl (cy 0, 672, .inl mspare)), ((A 4), .inl (cy 0, 672, .inl mtrial)), ((A 5), .inl (cy 0, 5376, .inl mpast)), ((A 6), .inl (cy 0, 6, .inl mreport)), ((A 7), .inl (cy 0, 5, .inl mpart)), ((A 8), .inl (cy 0, 5, .inl mcome)), ((A 9), .inl (cy 0, 60, .inl morder)), ((A 10), .inl (cy 0, 80, .inl mtext)), ((A 11), .inl (cy 0, 200, .inl u6.2.2.2)), ((A 12), .inl (cy 0, 672, .inl mahead))]) K hR [.int 61] [] 0 rfl rfl (c_X9_skips X.2.1 (gxD X) cy sd A mg mkept mspare mtrial mpast mreport mpart mcome morder mtext u6.2.2.2 mahead mhasKept mpasts mreports mthrown mordering mdetail mlength u6.2.1 u6.2.2.1 x4 61 hw) gX9_command_X9_skips rfl yok_X9_skips rfl rfl (by decide) rfl (Nat.le_of_ble_eq_true rfl) dX9_command_111 [0, 1, 2, 3, 4, 5, 6, 7, 8, 9, 10, 11, 12] rfl (by decide) (fun _ => rfl) (fun _ => rfl) (fun _ => rfl) ⟨rfl, rfl⟩ (fun u13 hw => ?_)
            refine g_ifb_eq (tgt := 128) K dX9_command_114 (by decide) (fun hc => ?_) (fun hc => ?_)
            · replace hw := hw.2 hc
              refine g_iconst (v := 0) K dX9_command_128 rfl ?_
              exact g_zret K E Er (false, u13.2, u6.2.2.1, x4, u6.2.2.2) hw rfl rfl rfl (Nat.le_refl _) (Nat.le_refl _) dX9_command_129
            · replace hw := hw.1 hc
              refine g_aload_n K 2 dX9_command_117 rfl ?_
              refine g_iload_n K 1 dX9_command_118 rfl ?_
              refine g_iconst (v := 2) K dX9_command_119 rfl ?_
              refine g_iadd K dX9_command_120 ?_
              refine g_iconst (v := 4) K dX9_command_121 rfl ?_
              refine g_callV (st' := fun u14 => [.int (bI u14.1)]) (ws' := fun u14 => [((A 0), .inr (10, [.ref (A 1), .ref (A 2), .ref (A 3), .ref (A 4), .int mhasKept, .ref (A 5), .int mpasts, .ref (A 6), .int mreports, .int mthrown, .ref (A 7), .ref (A 8), .ref (A 9), .int mordering, .int mdetail, .ref (A 10), .int mlength, .int u14.2.1, .int u14.2.2.1, .ref (A 11), .int x4, .ref (A 12)])), ((A 1), .inl (cy 0, 672, .inl mg)), ((A 2), .inl (cy 0, 672, .inl mkept)), ((A 3), .inl (cy 0, 672, .inl mspare)), ((A 4), .inl (cy 0, 672, .inl mtrial)), ((A 5), .inl (cy 0, 5376, .inl mpast)), ((A 6), .inl (cy 0, 6, .inl mreport)), ((A 7), .inl (cy 0, 5, .inl mpart)), ((A 8), .inl (cy 0, 5, .inl mcome)), ((A 9), .inl (cy 0, 60, .inl morder)), ((A 10), .inl (cy 0, 80, .inl mtext)), ((A 11), .inl (cy 0, 200, .inl u14.2.2.2)), ((A 12), .inl (cy 0, 672, .inl mahead))]) K hR [.int (x1 + 2), .int 4] [] 0 rfl rfl (c_X9_puts X.2.1 (gxD X) cy sd A mg mkept mspare mtrial mpast mreport mpart mcome morder mtext u6.2.2.2 mahead mhasKept mpasts mreports mthrown mordering mdetail mlength u13.2 u6.2.2.1 x4 (x1 + 2) 4 hw) gX9_command_X9_puts rfl yok_X9_puts rfl rfl (by decide) rfl (Nat.le_of_ble_eq_true rfl) dX9_command_122 [0, 1, 2, 3, 4, 5, 6, 7, 8, 9, 10, 11, 12] rfl (by decide) (fun _ => rfl) (fun _ => rfl) (fun _ => rfl) ⟨rfl, rfl⟩ (fun u14 hw => ?_)
              refine g_ifb_ne (tgt := 130) K dX9_command_125 (by decide) (fun hc => ?_) (fun hc => ?_)
              · replace hw := hw.1 hc
                refine g_iload_n K 0 dX9_command_130 rfl ?_
                refine g_bipush (v := 102) K dX9_command_131 rfl ?_
                refine g_icmp_eq (tgt := 176) K dX9_command_133 (by decide) (fun hc => ?_) (fun hc => ?_)
                · replace hw := hw.1 hc
                  refine g_iconst (v := 1) K dX9_command_176 rfl ?_
                  refine g_goto (tgt := 181) K dX9_command_177 (by decide) ?_
                  exact g_zret K E Er (true, u14.2.1, u14.2.2.1, x4, u14.2.2.2) hw rfl rfl rfl (Nat.le_refl _) (Nat.le_refl _) dX9_command_181
                · replace hw := hw.2 hc
                  refine g_aload_n K 2 dX9_command_136 rfl ?_
                  refine g_bipush (v := 42) K dX9_command_137 rfl ?_
                  refine g_callV (st' := fun u15 => [.int (bI u15.1)]) (ws' := fun u15 => [((A 0), .inr (10, [.ref (A 1), .ref (A 2), .ref (A 3), .ref (A 4), .int mhasKept, .ref (A 5), .int mpasts, .ref (A 6), .int mreports, .int mthrown, .ref (A 7), .ref (A 8), .ref (A 9), .int mordering, .int mdetail, .ref (A 10), .int mlength, .int u15.2, .int u14.2.2.1, .ref (A 11), .int x4, .ref (A 12)])), ((A 1), .inl (cy 0, 672, .inl mg)), ((A 2), .inl (cy 0, 672, .inl mkept)), ((A 3), .inl (cy 0, 672, .inl mspare)), ((A 4), .inl (cy 0, 672, .inl mtrial)), ((A 5), .inl (cy 0, 5376, .inl mpast)), ((A 6), .inl (cy 0, 6, .inl mreport)), ((A 7), .inl (cy 0, 5, .inl mpart)), ((A 8), .inl (cy 0, 5, .inl mcome)), ((A 9), .inl (cy 0, 60, .inl morder)), ((A 10), .inl (cy 0, 80, .inl mtext)), ((A 11), .inl (cy 0, 200, .inl u14.2.2.2)), ((A 12), .inl (cy 0, 672, .inl mahead))]) K hR [.int 42] [] 0 rfl rfl (c_X9_skips X.2.1 (gxD X) cy sd A mg mkept mspare mtrial mpast mreport mpart mcome morder mtext u14.2.2.2 mahead mhasKept mpasts mreports mthrown mordering mdetail mlength u14.2.1 u14.2.2.1 x4 42 hw) gX9_command_X9_skips rfl yok_X9_skips rfl rfl (by decide) rfl (Nat.le_of_ble_eq_true rfl) dX9_command_139 [0, 1, 2, 3, 4, 5, 6, 7, 8, 9, 10, 11, 12] rfl (by decide) (fun _ => rfl) (fun _ => rfl) (fun _ => rfl) ⟨rfl, rfl⟩ (fun u15 hw => ?_)
                  refine g_ifb_eq (tgt := 180) K dX9_command_142 (by decide) (fun hc => ?_) (fun hc => ?_)
                  · replace hw := hw.2 hc
                    refine g_iconst (v := 0) K dX9_command_180 rfl ?_
                    exact g_zret K E Er (false, u15.2, u14.2.2.1, x4, u14.2.2.2) hw rfl rfl rfl (Nat.le_refl _) (Nat.le_refl _) dX9_command_181
                  · replace hw := hw.1 hc
                    refine g_aload_n K 2 dX9_command_145 rfl ?_
                    refine g_iload_n K 1 dX9_command_146 rfl ?_
                    refine g_iconst (v := 3) K dX9_command_147 rfl ?_
                    refine g_iadd K dX9_command_148 ?_
                    refine g_iconst (v := 4) K dX9_command_149 rfl ?_
                    refine g_callV (st' := fun u16 => [.int (bI u16.1)]) (ws' := fun u16 => [((A 0), .inr (10, [.ref (A 1), .ref (A 2), .ref (A 3), .ref (A 4), .int mhasKept, .ref (A 5), .int mpasts, .ref (A 6), .int mreports, .int mthrown, .ref (A 7), .ref (A 8), .ref (A 9), .int mordering, .int mdetail, .ref (A 10), .int mlength, .int u16.2.1, .int u16.2.2.1, .ref (A 11), .int x4, .ref (A 12)])), ((A 1), .inl (cy 0, 672, .inl mg)), ((A 2), .inl (cy 0, 672, .inl mkept)), ((A 3), .inl (cy 0, 672, .inl mspare)), ((A 4), .inl (cy 0, 672, .inl mtrial)), ((A 5), .inl (cy 0, 5376, .inl mpast)), ((A 6), .inl (cy 0, 6, .inl mreport)), ((A 7), .inl (cy 0, 5, .inl mpart)), ((A 8), .inl (cy 0, 5, .inl mcome)), ((A 9), .inl (cy 0, 60, .inl morder)), ((A 10), .inl (cy 0, 80, .inl mtext)), ((A 11), .inl (cy 0, 200, .inl u16.2.2.2)), ((A 12), .inl (cy 0, 672, .inl mahead))]) K hR [.int (x1 + 3), .int 4] [] 0 rfl rfl (c_X9_puts X.2.1 (gxD X) cy sd A mg mkept mspare mtrial mpast mreport mpart mcome morder mtext u14.2.2.2 mahead mhasKept mpasts mreports mthrown mordering mdetail mlength u15.2 u14.2.2.1 x4 (x1 + 3) 4 hw) gX9_command_X9_puts rfl yok_X9_puts rfl rfl (by decide) rfl (Nat.le_of_ble_eq_true rfl) dX9_command_150 [0, 1, 2, 3, 4, 5, 6, 7, 8, 9, 10, 11, 12] rfl (by decide) (fun _ => rfl) (fun _ => rfl) (fun _ => rfl) ⟨rfl, rfl⟩ (fun u16 hw => ?_)
                    refine g_ifb_eq (tgt := 180) K dX9_command_153 (by decide) (fun hc => ?_) (fun hc => ?_)
                    · replace hw := hw.2 hc
                      refine g_iconst (v := 0) K dX9_command_180 rfl ?_
                      exact g_zret K E Er (false, u16.2.1, u16.2.2.1, x4, u16.2.2.2) hw rfl rfl rfl (Nat.le_refl _) (Nat.le_refl _) dX9_command_181
                    · replace hw := hw.1 hc
                      refine g_aload_n K 2 dX9_command_156 rfl ?_
                      refine g_bipush (v := 36) K dX9_command_157 rfl ?_
                      refine g_callV (st' := fun u17 => [.int (bI u17.1)]) (ws' := fun u17 => [((A 0), .inr (10, [.ref (A 1), .ref (A 2), .ref (A 3), .ref (A 4), .int mhasKept, .ref (A 5), .int mpasts, .ref (A 6), .int mreports, .int mthrown, .ref (A 7), .ref (A 8), .ref (A 9), .int mordering, .int mdetail, .ref (A 10), .int mlength, .int u17.2, .int u16.2.2.1, .ref (A 11), .int x4, .ref (A 12)])), ((A 1), .inl (cy 0, 672, .inl mg)), ((A 2), .inl (cy 0, 672, .inl mkept)), ((A 3), .inl (cy 0, 672, .inl mspare)), ((A 4), .inl (cy 0, 672, .inl mtrial)), ((A 5), .inl (cy 0, 5376, .inl mpast)), ((A 6), .inl (cy 0, 6, .inl mreport)), ((A 7), .inl (cy 0, 5, .inl mpart)), ((A 8), .inl (cy 0, 5, .inl mcome)), ((A 9), .inl (cy 0, 60, .inl morder)), ((A 10), .inl (cy 0, 80, .inl mtext)), ((A 11), .inl (cy 0, 200, .inl u16.2.2.2)), ((A 12), .inl (cy 0, 672, .inl mahead))]) K hR [.int 36] [] 0 rfl rfl (c_X9_skips X.2.1 (gxD X) cy sd A mg mkept mspare mtrial mpast mreport mpart mcome morder mtext u16.2.2.2 mahead mhasKept mpasts mreports mthrown mordering mdetail mlength u16.2.1 u16.2.2.1 x4 36 hw) gX9_command_X9_skips rfl yok_X9_skips rfl rfl (by decide) rfl (Nat.le_of_ble_eq_true rfl) dX9_command_159 [0, 1, 2, 3, 4, 5, 6, 7, 8, 9, 10, 11, 12] rfl (by decide) (fun _ => rfl) (fun _ => rfl) (fun _ => rfl) ⟨rfl, rfl⟩ (fun u17 hw => ?_)
                      refine g_ifb_eq (tgt := 180) K dX9_command_162 (by decide) (fun hc => ?_) (fun hc => ?_)
                      · replace hw := hw.2 hc
                        refine g_iconst (v := 0) K dX9_command_180 rfl ?_
                        exact g_zret K E Er (false, u17.2, u16.2.2.1, x4, u16.2.2.2) hw rfl rfl rfl (Nat.le_refl _) (Nat.le_refl _) dX9_command_181
                      · replace hw := hw.1 hc
                        refine g_aload_n K 2 dX9_command_165 rfl ?_
                        refine g_iload_n K 1 dX9_command_166 rfl ?_
                        refine g_iconst (v := 4) K dX9_command_167 rfl ?_
                        refine g_iadd K dX9_command_168 ?_
                        refine g_iconst (v := 4) K dX9_command_169 rfl ?_
                        refine g_callV (st' := fun u18 => [.int (bI u18.1)]) (ws' := fun u18 => [((A 0), .inr (10, [.ref (A 1), .ref (A 2), .ref (A 3), .ref (A 4), .int mhasKept, .ref (A 5), .int mpasts, .ref (A 6), .int mreports, .int mthrown, .ref (A 7), .ref (A 8), .ref (A 9), .int mordering, .int mdetail, .ref (A 10), .int mlength, .int u18.2.1, .int u18.2.2.1, .ref (A 11), .int x4, .ref (A 12)])), ((A 1), .inl (cy 0, 672, .inl mg)), ((A 2), .inl (cy 0, 672, .inl mkept)), ((A 3), .inl (cy 0, 672, .inl mspare)), ((A 4), .inl (cy 0, 672, .inl mtrial)), ((A 5), .inl (cy 0, 5376, .inl mpast)), ((A 6), .inl (cy 0, 6, .inl mreport)), ((A 7), .inl (cy 0, 5, .inl mpart)), ((A 8), .inl (cy 0, 5, .inl mcome)), ((A 9), .inl (cy 0, 60, .inl morder)), ((A 10), .inl (cy 0, 80, .inl mtext)), ((A 11), .inl (cy 0, 200, .inl u18.2.2.2)), ((A 12), .inl (cy 0, 672, .inl mahead))]) K hR [.int (x1 + 4), .int 4] [] 0 rfl rfl (c_X9_puts X.2.1 (gxD X) cy sd A mg mkept mspare mtrial mpast mreport mpart mcome morder mtext u16.2.2.2 mahead mhasKept mpasts mreports mthrown mordering mdetail mlength u17.2 u16.2.2.1 x4 (x1 + 4) 4 hw) gX9_command_X9_puts rfl yok_X9_puts rfl rfl (by decide) rfl (Nat.le_of_ble_eq_true rfl) dX9_command_170 [0, 1, 2, 3, 4, 5, 6, 7, 8, 9, 10, 11, 12] rfl (by decide) (fun _ => rfl) (fun _ => rfl) (fun _ => rfl) ⟨rfl, rfl⟩ (fun u18 hw => ?_)
                        refine g_ifb_eq (tgt := 180) K dX9_command_173 (by decide) (fun hc => ?_) (fun hc => ?_)
                        · replace hw := hw.2 hc
                          refine g_iconst (v := 0) K dX9_command_180 rfl ?_
                          exact g_zret K E Er (false, u18.2.1, u18.2.2.1, x4, u18.2.2.2) hw rfl rfl rfl (Nat.le_refl _) (Nat.le_refl _) dX9_command_181
                        · replace hw := hw.1 hc
                          refine g_iconst (v := 1) K dX9_command_176 rfl ?_
                          refine g_goto (tgt := 181) K dX9_command_177 (by decide) ?_
                          exact g_zret K E Er (true, u18.2.1, u18.2.2.1, x4, u18.2.2.2) hw rfl rfl rfl (Nat.le_refl _) (Nat.le_refl _) dX9_command_181
              · replace hw := hw.2 hc
                refine g_iconst (v := 0) K dX9_command_128 rfl ?_
                exact g_zret K E Er (false, u14.2.1, u14.2.2.1, x4, u14.2.2.2) hw rfl rfl rfl (Nat.le_refl _) (Nat.le_refl _) dX9_command_129
      · replace hw := hw.1 hc
        refine g_aload_n K 2 dX9_command_77 rfl ?_
        refine g_iload_n K 1 dX9_command_78 rfl ?_
        refine g_iconst (v := 1) K dX9_command_79 rfl ?_
        refine g_iadd K dX9_command_80 ?_
        refine g_iconst (v := 4) K dX9_command_81 rfl ?_
        refine g_callV (st' := fun u19 => [.int (bI u19.1)]) (ws' := fun u19 => [((A 0), .inr (10, [.ref (A 1), .ref (A 2), .ref (A 3), .ref (A 4), .int mhasKept, .ref (A 5), .int mpasts, .ref (A 6), .int mreports, .int mthrown, .ref (A 7), .ref (A 8), .ref (A 9), .int mordering, .int mdetail, .ref (A 10), .int mlength, .int u19.2.1, .int u19.2.2.1, .ref (A 11), .int x4, .ref (A 12)])), ((A 1), .inl (cy 0, 672, .inl mg)), ((A 2), .inl (cy 0, 672, .inl mkept)), ((A 3), .inl (cy 0, 672, .inl mspare)), ((A 4), .inl (cy 0, 672, .inl mtrial)), ((A 5), .inl (cy 0, 5376, .inl mpast)), ((A 6), .inl (cy 0, 6, .inl mreport)), ((A 7), .inl (cy 0, 5, .inl mpart)), ((A 8), .inl (cy 0, 5, .inl mcome)), ((A 9), .inl (cy 0, 60, .inl morder)), ((A 10), .inl (cy 0, 80, .inl mtext)), ((A 11), .inl (cy 0, 200, .inl u19.2.2.2)), ((A 12), .inl (cy 0, 672, .inl mahead))]) K hR [.int (x1 + 1), .int 4] [] 0 rfl rfl (c_X9_puts X.2.1 (gxD X) cy sd A mg mkept mspare mtrial mpast mreport mpart mcome morder mtext (upd mtold (x1).toNatClampNeg u2) mahead mhasKept mpasts mreports mthrown mordering mdetail mlength x3 mnumber x4 (x1 + 1) 4 hw) gX9_command_X9_puts rfl yok_X9_puts rfl rfl (by decide) rfl (Nat.le_of_ble_eq_true rfl) dX9_command_82 [0, 1, 2, 3, 4, 5, 6, 7, 8, 9, 10, 11, 12] rfl (by decide) (fun _ => rfl) (fun _ => rfl) (fun _ => rfl) ⟨rfl, rfl⟩ (fun u19 hw => ?_)
        exact g_zret K E Er (u19.1, u19.2.1, u19.2.2.1, x4, u19.2.2.2) hw rfl (bI_narrow _) rfl (Nat.le_refl _) (Nat.le_refl _) dX9_command_85
  · replace hw := hw.2 hc
    refine g_iload_n K 0 dX9_command_18 rfl ?_
    refine g_bipush (v := 114) K dX9_command_19 rfl ?_
    refine g_icmp_eq (tgt := 38) K dX9_command_21 (by decide) (fun hc => ?_) (fun hc => ?_)
    · replace hw := hw.1 hc
      refine g_aload_n K 2 dX9_command_38 rfl ?_
      refine g_get K (C := RX9) (T := TX9) (N := 22) 0 19 in_X9_command_X9 (by decide +kernel) rfl rfl (by decide) rfl dX9_command_39 ?_
      refine g_iload_n K 1 dX9_command_42 rfl ?_
      refine g_iload_n K 0 dX9_command_43 rfl ?_
      refine g_iast (ws' := [((A 0), .inr (10, [.ref (A 1), .ref (A 2), .ref (A 3), .ref (A 4), .int mhasKept, .ref (A 5), .int mpasts, .ref (A 6), .int mreports, .int mthrown, .ref (A 7), .ref (A 8), .ref (A 9), .int mordering, .int mdetail, .ref (A 10), .int mlength, .int mspot, .int mnumber, .ref (A 11), .int mtolds, .ref (A 12)])), ((A 1), .inl (cy 0, 672, .inl mg)), ((A 2), .inl (cy 0, 672, .inl mkept)), ((A 3), .inl (cy 0, 672, .inl mspare)), ((A 4), .inl (cy 0, 672, .inl mtrial)), ((A 5), .inl (cy 0, 5376, .inl mpast)), ((A 6), .inl (cy 0, 6, .inl mreport)), ((A 7), .inl (cy 0, 5, .inl mpart)), ((A 8), .inl (cy 0, 5, .inl mcome)), ((A 9), .inl (cy 0, 60, .inl morder)), ((A 10), .inl (cy 0, 80, .inl mtext)), ((A 11), .inl (cy 0, 200, .inl (upd mtold (x1).toNatClampNeg u2))), ((A 12), .inl (cy 0, 672, .inl mahead))]) K 11 0 rfl rfl hw.1 rfl dX9_command_44 ?_
      replace hw := hw.2
      refine g_aload_n K 2 dX9_command_45 rfl ?_
      refine g_dup K dX9_command_46 rfl ?_
      refine g_get K (C := RX9) (T := TX9) (N := 22) 0 17 in_X9_command_X9 (by decide +kernel) rfl rfl (by decide) rfl dX9_command_47 ?_
      refine g_iconst (v := 1) K dX9_command_50 rfl ?_
      refine g_iadd K dX9_command_51 ?_
      refine g_topi (fun x20 ex20 => ?_)
      replace hw := hw x20 ex20
      refine g_put (ty := .int) (ws' := [((A 0), .inr (10, [.ref (A 1), .ref (A 2), .ref (A 3), .ref (A 4), .int mhasKept, .ref (A 5), .int mpasts, .ref (A 6), .int mreports, .int mthrown, .ref (A 7), .ref (A 8), .ref (A 9), .int mordering, .int mdetail, .ref (A 10), .int mlength, .int x20, .int mnumber, .ref (A 11), .int mtolds, .ref (A 12)])), ((A 1), .inl (cy 0, 672, .inl mg)), ((A 2), .inl (cy 0, 672, .inl mkept)), ((A 3), .inl (cy 0, 672, .inl mspare)), ((A 4), .inl (cy 0, 672, .inl mtrial)), ((A 5), .inl (cy 0, 5376, .inl mpast)), ((A 6), .inl (cy 0, 6, .inl mreport)), ((A 7), .inl (cy 0, 5, .inl mpart)), ((A 8), .inl (cy 0, 5, .inl mcome)), ((A 9), .inl (cy 0, 60, .inl morder)), ((A 10), .inl (cy 0, 80, .inl mtext)), ((A 11), .inl (cy 0, 200, .inl (upd mtold (x1).toNatClampNeg u2))), ((A 12), .inl (cy 0, 672, .inl mahead))]) K (C := RX9) (T := TX9) (N := 22) 0 17 in_X9_command_X9 tyX9 tyX9_ok nmX9 (by decide +kernel) rfl rfl (by decide) rfl (by decide +kernel) rfl rfl (Nat.le_of_ble_eq_true rfl) rfl dX9_command_52 ?_
      refine g_aload_n K 2 dX9_command_55 rfl ?_
      refine g_dup K dX9_command_56 rfl ?_
      refine g_get K (C := RX9) (T := TX9) (N := 22) 0 20 in_X9_command_X9 (by decide +kernel) rfl rfl (by decide) rfl dX9_command_57 ?_
      refine g_iconst (v := 1) K dX9_command_60 rfl ?_
      refine g_iadd K dX9_command_61 ?_
      refine g_topi (fun x21 ex21 => ?_)
      replace hw := hw x21 ex21
      refine g_put (ty := .int) (ws' := [((A 0), .inr (10, [.ref (A 1), .ref (A 2), .ref (A 3), .ref (A 4), .int mhasKept, .ref (A 5), .int mpasts, .ref (A 6), .int mreports, .int mthrown, .ref (A 7), .ref (A 8), .ref (A 9), .int mordering, .int mdetail, .ref (A 10), .int mlength, .int x20, .int mnumber, .ref (A 11), .int x21, .ref (A 12)])), ((A 1), .inl (cy 0, 672, .inl mg)), ((A 2), .inl (cy 0, 672, .inl mkept)), ((A 3), .inl (cy 0, 672, .inl mspare)), ((A 4), .inl (cy 0, 672, .inl mtrial)), ((A 5), .inl (cy 0, 5376, .inl mpast)), ((A 6), .inl (cy 0, 6, .inl mreport)), ((A 7), .inl (cy 0, 5, .inl mpart)), ((A 8), .inl (cy 0, 5, .inl mcome)), ((A 9), .inl (cy 0, 60, .inl morder)), ((A 10), .inl (cy 0, 80, .inl mtext)), ((A 11), .inl (cy 0, 200, .inl (upd mtold (x1).toNatClampNeg u2))), ((A 12), .inl (cy 0, 672, .inl mahead))]) K (C := RX9) (T := TX9) (N := 22) 0 20 in_X9_command_X9 tyX9 tyX9_ok nmX9 (by decide +kernel) rfl rfl (by decide) rfl (by decide +kernel) rfl rfl (Nat.le_of_ble_eq_true rfl) rfl dX9_command_62 ?_
      refine g_iload_n K 0 dX9_command_65 rfl ?_
      refine g_bipush (v := 114) K dX9_command_66 rfl ?_
      refine g_icmp_eq (tgt := 77) K dX9_command_68 (by decide) (fun hc => ?_) (fun hc => ?_)
      · replace hw := hw.1 hc
        refine g_aload_n K 2 dX9_command_77 rfl ?_
        refine g_iload_n K 1 dX9_command_78 rfl ?_
        refine g_iconst (v := 1) K dX9_command_79 rfl ?_
        refine g_iadd K dX9_command_80 ?_
        refine g_iconst (v := 4) K dX9_command_81 rfl ?_
        refine g_callV (st' := fun u22 => [.int (bI u22.1)]) (ws' := fun u22 => [((A 0), .inr (10, [.ref (A 1), .ref (A 2), .ref (A 3), .ref (A 4), .int mhasKept, .ref (A 5), .int mpasts, .ref (A 6), .int mreports, .int mthrown, .ref (A 7), .ref (A 8), .ref (A 9), .int mordering, .int mdetail, .ref (A 10), .int mlength, .int u22.2.1, .int u22.2.2.1, .ref (A 11), .int x21, .ref (A 12)])), ((A 1), .inl (cy 0, 672, .inl mg)), ((A 2), .inl (cy 0, 672, .inl mkept)), ((A 3), .inl (cy 0, 672, .inl mspare)), ((A 4), .inl (cy 0, 672, .inl mtrial)), ((A 5), .inl (cy 0, 5376, .inl mpast)), ((A 6), .inl (cy 0, 6, .inl mreport)), ((A 7), .inl (cy 0, 5, .inl mpart)), ((A 8), .inl (cy 0, 5, .inl mcome)), ((A 9), .inl (cy 0, 60, .inl morder)), ((A 10), .inl (cy 0, 80, .inl mtext)), ((A 11), .inl (cy 0, 200, .inl u22.2.2.2)), ((A 12), .inl (cy 0, 672, .inl mahead))]) K hR [.int (x1 + 1), .int 4] [] 0 rfl rfl (c_X9_puts X.2.1 (gxD X) cy sd A mg mkept mspare mtrial mpast mreport mpart mcome morder mtext (upd mtold (x1).toNatClampNeg u2) mahead mhasKept mpasts mreports mthrown mordering mdetail mlength x20 mnumber x21 (x1 + 1) 4 hw) gX9_command_X9_puts rfl yok_X9_puts rfl rfl (by decide) rfl (Nat.le_of_ble_eq_true rfl) dX9_command_82 [0, 1, 2, 3, 4, 5, 6, 7, 8, 9, 10, 11, 12] rfl (by decide) (fun _ => rfl) (fun _ => rfl) (fun _ => rfl) ⟨rfl, rfl⟩ (fun u22 hw => ?_)
        exact g_zret K E Er (u22.1, u22.2.1, u22.2.2.1, x21, u22.2.2.2) hw rfl (bI_narrow _) rfl (Nat.le_refl _) (Nat.le_refl _) dX9_command_85
      · replace hw := hw.2 hc
        refine g_iload_n K 0 dX9_command_71 rfl ?_
        refine g_bipush (v := 115) K dX9_command_72 rfl ?_
        refine g_icmp_ne (tgt := 86) K dX9_command_74 (by decide) (fun hc => ?_) (fun hc => ?_)
        · replace hw := hw.2 hc
          refine g_aload_n K 2 dX9_command_86 rfl ?_
          refine g_iload_n K 1 dX9_command_87 rfl ?_
          refine g_iconst (v := 1) K dX9_command_88 rfl ?_
          refine g_iadd K dX9_command_89 ?_
          refine g_iconst (v := 1) K dX9_command_90 rfl ?_
          refine g_callV (st' := fun u23 => [.int (bI u23.1)]) (ws' := fun u23 => [((A 0), .inr (10, [.ref (A 1), .ref (A 2), .ref (A 3), .ref (A 4), .int mhasKept, .ref (A 5), .int mpasts, .ref (A 6), .int mreports, .int mthrown, .ref (A 7), .ref (A 8), .ref (A 9), .int mordering, .int mdetail, .ref (A 10), .int mlength, .int u23.2.1, .int u23.2.2.1, .ref (A 11), .int x21, .ref (A 12)])), ((A 1), .inl (cy 0, 672, .inl mg)), ((A 2), .inl (cy 0, 672, .inl mkept)), ((A 3), .inl (cy 0, 672, .inl mspare)), ((A 4), .inl (cy 0, 672, .inl mtrial)), ((A 5), .inl (cy 0, 5376, .inl mpast)), ((A 6), .inl (cy 0, 6, .inl mreport)), ((A 7), .inl (cy 0, 5, .inl mpart)), ((A 8), .inl (cy 0, 5, .inl mcome)), ((A 9), .inl (cy 0, 60, .inl morder)), ((A 10), .inl (cy 0, 80, .inl mtext)), ((A 11), .inl (cy 0, 200, .inl u23.2.2.2)), ((A 12), .inl (cy 0, 672, .inl mahead))]) K hR [.int (x1 + 1), .int 1] [] 0 rfl rfl (c_X9_puts X.2.1 (gxD X) cy sd A mg mkept mspare mtrial mpast mreport mpart mcome morder mtext (upd mtold (x1).toNatClampNeg u2) mahead mhasKept mpasts mreports mthrown mordering mdetail mlength x20 mnumber x21 (x1 + 1) 1 hw) gX9_command_X9_puts rfl yok_X9_puts rfl rfl (by decide) rfl (Nat.le_of_ble_eq_true rfl) dX9_command_91 [0, 1, 2, 3, 4, 5, 6, 7, 8, 9, 10, 11, 12] rfl (by decide) (fun _ => rfl) (fun _ => rfl) (fun _ => rfl) ⟨rfl, rfl⟩ (fun u23 hw => ?_)
          refine g_ifb_eq (tgt := 128) K dX9_command_94 (by decide) (fun hc => ?_) (fun hc => ?_)
          · replace hw := hw.2 hc
            refine g_iconst (v := 0) K dX9_command_128 rfl ?_
            exact g_zret K E Er (false, u23.2.1, u23.2.2.1, x21, u23.2.2.2) hw rfl rfl rfl (Nat.le_refl _) (Nat.le_refl _) dX9_command_129
          · replace hw := hw.1 hc
            refine g_aload_n K 2 dX9_command_97 rfl ?_
            refine g_iload_n K 0 dX9_command_98 rfl ?_
            refine g_bipush (v := 102) K dX9_command_99 rfl ?_
            refine g_icmp_ne (tgt := 109) K dX9_command_101 (by decide) (fun hc => ?_) (fun hc => ?_)
            · replace hw := hw.2 hc
              refine g_bipush (v := 64) K dX9_command_109 rfl ?_
              refine g_callV (st' := fun u24 => [.int (bI u24.1)]) (ws' := fun u24 => [((A 0), .inr (10, [.ref (A 1), .ref (A 2), .ref (A 3), .ref (A 4), .int mhasKept, .ref (A 5), .int mpasts, .ref (A 6), .int mreports, .int mthrown, .ref (A 7), .ref (A 8), .ref (A 9), .int mordering, .int mdetail, .ref (A 10), .int mlength, .int u24.2, .int u23.2.2.1, .ref (A 11), .int x21, .ref (A 12)])), ((A 1), .inl (cy 0, 672, .inl mg)), ((A 2), .inl (cy 0, 672, .inl mkept)), ((A 3), .inl (cy 0, 672, .inl mspare)), ((A 4), .inl (cy 0, 672, .inl mtrial)), ((A 5), .inl (cy 0, 5376, .inl mpast)), ((A 6), .inl (cy 0, 6, .inl mreport)), ((A 7), .inl (cy 0, 5, .inl mpart)), ((A 8), .inl (cy 0, 5, .inl mcome)), ((A 9), .inl (cy 0, 60, .inl morder)), ((A 10), .inl (cy 0, 80, .inl mtext)), ((A 11), .inl (cy 0, 200, .inl u23.2.2.2)), ((A 12), .inl (cy 0, 672, .inl mahead))]) K hR [.int 64] [] 0 rfl rfl (c_X9_skips X.2.1 (gxD X) cy sd A mg mkept mspare mtrial mpast mreport mpart mcome morder mtext u23.2.2.2 mahead mhasKept mpasts mreports mthrown mordering mdetail mlength u23.2.1 u23.2.2.1 x21 64 hw) gX9_command_X9_skips rfl yok_X9_skips rfl rfl (by decide) rfl (Nat.le_of_ble_eq_true rfl) dX9_command_111 [0, 1, 2, 3, 4, 5, 6, 7, 8, 9, 10, 11, 12] rfl (by decide) (fun _ => rfl) (fun _ => rfl) (fun _ => rfl) ⟨rfl, rfl⟩ (fun u24 hw => ?_)
              refine g_ifb_eq (tgt := 128) K dX9_command_114 (by decide) (fun hc => ?_) (fun hc => ?_)
              · replace hw := hw.2 hc
                refine g_iconst (v := 0) K dX9_command_128 rfl ?_
                exact g_zret K E Er (false, u24.2, u23.2.2.1, x21, u23.2.2.2) hw rfl rfl rfl (Nat.le_refl _) (Nat.le_refl _) dX9_command_129
              · replace hw := hw.1 hc
                refine g_aload_n K 2 dX9_command_117 rfl ?_
                refine g_iload_n K 1 dX9_command_118 rfl ?_
                refine g_iconst (v := 2) K dX9_command_119 rfl ?_
                refine g_iadd K dX9_command_120 ?_
                refine g_iconst (v := 4) K dX9_command_121 rfl ?_
                refine g_callV (st' := fun u25 => [.int (bI u25.1)]) (ws' := fun u25 => [((A 0), .inr (10, [.ref (A 1), .ref (A 2), .ref (A 3), .ref (A 4), .int mhasKept, .ref (A 5), .int mpasts, .ref (A 6), .int mreports, .int mthrown, .ref (A 7), .ref (A 8), .ref (A 9), .int mordering, .int mdetail, .ref (A 10), .int mlength, .int u25.2.1, .int u25.2.2.1, .ref (A 11), .int x21, .ref (A 12)])), ((A 1), .inl (cy 0, 672, .inl mg)), ((A 2), .inl (cy 0, 672, .inl mkept)), ((A 3), .inl (cy 0, 672, .inl mspare)), ((A 4), .inl (cy 0, 672, .inl mtrial)), ((A 5), .inl (cy 0, 5376, .inl mpast)), ((A 6), .inl (cy 0, 6, .inl mreport)), ((A 7), .inl (cy 0, 5, .inl mpart)), ((A 8), .inl (cy 0, 5, .inl mcome)), ((A 9), .inl (cy 0, 60, .inl morder)), ((A 10), .inl (cy 0, 80, .inl mtext)), ((A 11), .inl (cy 0, 200, .inl u25.2.2.2)), ((A 12), .inl (cy 0, 672, .inl mahead))]) K hR [.int (x1 + 2), .int 4] [] 0 rfl rfl (c_X9_puts X.2.1 (gxD X) cy sd A mg mkept mspare mtrial mpast mreport mpart mcome morder mtext u23.2.2.2 mahead mhasKept mpasts mreports mthrown mordering mdetail mlength u24.2 u23.2.2.1 x21 (x1 + 2) 4 hw) gX9_command_X9_puts rfl yok_X9_puts rfl rfl (by decide) rfl (Nat.le_of_ble_eq_true rfl) dX9_command_122 [0, 1, 2, 3, 4, 5, 6, 7, 8, 9, 10, 11, 12] rfl (by decide) (fun _ => rfl) (fun _ => rfl) (fun _ => rfl) ⟨rfl, rfl⟩ (fun u25 hw => ?_)
                refine g_ifb_ne (tgt := 130) K dX9_command_125 (by decide) (fun hc => ?_) (fun hc => ?_)
                · replace hw := hw.1 hc
                  refine g_iload_n K 0 dX9_command_130 rfl ?_
                  refine g_bipush (v := 102) K dX9_command_131 rfl ?_
                  refine g_icmp_eq (tgt := 176) K dX9_command_133 (by decide) (fun hc => ?_) (fun hc => ?_)
                  · replace hw := hw.1 hc
                    refine g_iconst (v := 1) K dX9_command_176 rfl ?_
                    refine g_goto (tgt := 181) K dX9_command_177 (by decide) ?_
                    exact g_zret K E Er (true, u25.2.1, u25.2.2.1, x21, u25.2.2.2) hw rfl rfl rfl (Nat.le_refl _) (Nat.le_refl _) dX9_command_181
                  · replace hw := hw.2 hc
                    refine g_aload_n K 2 dX9_command_136 rfl ?_
                    refine g_bipush (v := 42) K dX9_command_137 rfl ?_
                    refine g_callV (st' := fun u26 => [.int (bI u26.1)]) (ws' := fun u26 => [((A 0), .inr (10, [.ref (A 1), .ref (A 2), .ref (A 3), .ref (A 4), .int mhasKept, .ref (A 5), .int mpasts, .ref (A 6), .int mreports, .int mthrown, .ref (A 7), .ref (A 8), .ref (A 9), .int mordering, .int mdetail, .ref (A 10), .int mlength, .int u26.2, .int u25.2.2.1, .ref (A 11), .int x21, .ref (A 12)])), ((A 1), .inl (cy 0, 672, .inl mg)), ((A 2), .inl (cy 0, 672, .inl mkept)), ((A 3), .inl (cy 0, 672, .inl mspare)), ((A 4), .inl (cy 0, 672, .inl mtrial)), ((A 5), .inl (cy 0, 5376, .inl mpast)), ((A 6), .inl (cy 0, 6, .inl mreport)), ((A 7), .inl (cy 0, 5, .inl mpart)), ((A 8), .inl (cy 0, 5, .inl mcome)), ((A 9), .inl (cy 0, 60, .inl morder)), ((A 10), .inl (cy 0, 80, .inl mtext)), ((A 11), .inl (cy 0, 200, .inl u25.2.2.2)), ((A 12), .inl (cy 0, 672, .inl mahead))]) K hR [.int 42] [] 0 rfl rfl (c_X9_skips X.2.1 (gxD X) cy sd A mg mkept mspare mtrial mpast mreport mpart mcome morder mtext u25.2.2.2 mahead mhasKept mpasts mreports mthrown mordering mdetail mlength u25.2.1 u25.2.2.1 x21 42 hw) gX9_command_X9_skips rfl yok_X9_skips rfl rfl (by decide) rfl (Nat.le_of_ble_eq_true rfl) dX9_command_139 [0, 1, 2, 3, 4, 5, 6, 7, 8, 9, 10, 11, 12] rfl (by decide) (fun _ => rfl) (fun _ => rfl) (fun _ => rfl) ⟨rfl, rfl⟩ (fun u26 hw => ?_)
                    refine g_ifb_eq (tgt := 180) K dX9_command_142 (by decide) (fun hc => ?_) (fun hc => ?_)
                    · replace hw := hw.2 hc
                      refine g_iconst (v := 0) K dX9_command_180 rfl ?_
                      exact g_zret K E Er (false, u26.2, u25.2.2.1, x21, u25.2.2.2) hw rfl rfl rfl (Nat.le_refl _) (Nat.le_refl _) dX9_command_181
                    · replace hw := hw.1 hc
                      refine g_aload_n K 2 dX9_command_145 rfl ?_
                      refine g_iload_n K 1 dX9_command_146 rfl ?_
                      refine g_iconst (v := 3) K dX9_command_147 rfl ?_
                      refine g_iadd K dX9_command_148 ?_
                      refine g_iconst (v := 4) K dX9_command_149 rfl ?_
                      refine g_callV (st' := fun u27 => [.int (bI u27.1)]) (ws' := fun u27 => [((A 0), .inr (10, [.ref (A 1), .ref (A 2), .ref (A 3), .ref (A 4), .int mhasKept, .ref (A 5), .int mpasts, .ref (A 6), .int mreports, .int mthrown, .ref (A 7), .ref (A 8), .ref (A 9), .int mordering, .int mdetail, .ref (A 10), .int mlength, .int u27.2.1, .int u27.2.2.1, .ref (A 11), .int x21, .ref (A 12)])), ((A 1), .inl (cy 0, 672, .inl mg)), ((A 2), .inl (cy 0, 672, .inl mkept)), ((A 3), .inl (cy 0, 672, .inl mspare)), ((A 4), .inl (cy 0, 672, .inl mtrial)), ((A 5), .inl (cy 0, 5376, .inl mpast)), ((A 6), .inl (cy 0, 6, .inl mreport)), ((A 7), .inl (cy 0, 5, .inl mpart)), ((A 8), .inl (cy 0, 5, .inl mcome)), ((A 9), .inl (cy 0, 60, .inl morder)), ((A 10), .inl (cy 0, 80, .inl mtext)), ((A 11), .inl (cy 0, 200, .inl u27.2.2.2)), ((A 12), .inl (cy 0, 672, .inl mahead))]) K hR [.int (x1 + 3), .int 4] [] 0 rfl rfl (c_X9_puts X.2.1 (gxD X) cy sd A mg mkept mspare mtrial mpast mreport mpart mcome morder mtext u25.2.2.2 mahead mhasKept mpasts mreports mthrown mordering mdetail mlength u26.2 u25.2.2.1 x21 (x1 + 3) 4 hw) gX9_command_X9_puts rfl yok_X9_puts rfl rfl (by decide) rfl (Nat.le_of_ble_eq_true rfl) dX9_command_150 [0, 1, 2, 3, 4, 5, 6, 7, 8, 9, 10, 11, 12] rfl (by decide) (fun _ => rfl) (fun _ => rfl) (fun _ => rfl) ⟨rfl, rfl⟩ (fun u27 hw => ?_)
                      refine g_ifb_eq (tgt := 180) K dX9_command_153 (by decide) (fun hc => ?_) (fun hc => ?_)
                      · replace hw := hw.2 hc
                        refine g_iconst (v := 0) K dX9_command_180 rfl ?_
                        exact g_zret K E Er (false, u27.2.1, u27.2.2.1, x21, u27.2.2.2) hw rfl rfl rfl (Nat.le_refl _) (Nat.le_refl _) dX9_command_181
                      · replace hw := hw.1 hc
                        refine g_aload_n K 2 dX9_command_156 rfl ?_
                        refine g_bipush (v := 36) K dX9_command_157 rfl ?_
                        refine g_callV (st' := fun u28 => [.int (bI u28.1)]) (ws' := fun u28 => [((A 0), .inr (10, [.ref (A 1), .ref (A 2), .ref (A 3), .ref (A 4), .int mhasKept, .ref (A 5), .int mpasts, .ref (A 6), .int mreports, .int mthrown, .ref (A 7), .ref (A 8), .ref (A 9), .int mordering, .int mdetail, .ref (A 10), .int mlength, .int u28.2, .int u27.2.2.1, .ref (A 11), .int x21, .ref (A 12)])), ((A 1), .inl (cy 0, 672, .inl mg)), ((A 2), .inl (cy 0, 672, .inl mkept)), ((A 3), .inl (cy 0, 672, .inl mspare)), ((A 4), .inl (cy 0, 672, .inl mtrial)), ((A 5), .inl (cy 0, 5376, .inl mpast)), ((A 6), .inl (cy 0, 6, .inl mreport)), ((A 7), .inl (cy 0, 5, .inl mpart)), ((A 8), .inl (cy 0, 5, .inl mcome)), ((A 9), .inl (cy 0, 60, .inl morder)), ((A 10), .inl (cy 0, 80, .inl mtext)), ((A 11), .inl (cy 0, 200, .inl u27.2.2.2)), ((A 12), .inl (cy 0, 672, .inl mahead))]) K hR [.int 36] [] 0 rfl rfl (c_X9_skips X.2.1 (gxD X) cy sd A mg mkept mspare mtrial mpast mreport mpart mcome morder mtext u27.2.2.2 mahead mhasKept mpasts mreports mthrown mordering mdetail mlength u27.2.1 u27.2.2.1 x21 36 hw) gX9_command_X9_skips rfl yok_X9_skips rfl rfl (by decide) rfl (Nat.le_of_ble_eq_true rfl) dX9_command_159 [0, 1, 2, 3, 4, 5, 6, 7, 8, 9, 10, 11, 12] rfl (by decide) (fun _ => rfl) (fun _ => rfl) (fun _ => rfl) ⟨rfl, rfl⟩ (fun u28 hw => ?_)
                        refine g_ifb_eq (tgt := 180) K dX9_command_162 (by decide) (fun hc => ?_) (fun hc => ?_)
                        · replace hw := hw.2 hc
                          refine g_iconst (v := 0) K dX9_command_180 rfl ?_
                          exact g_zret K E Er (false, u28.2, u27.2.2.1, x21, u27.2.2.2) hw rfl rfl rfl (Nat.le_refl _) (Nat.le_refl _) dX9_command_181
                        · replace hw := hw.1 hc
                          refine g_aload_n K 2 dX9_command_165 rfl ?_
                          refine g_iload_n K 1 dX9_command_166 rfl ?_
                          refine g_iconst (v := 4) K dX9_command_167 rfl ?_
                          refine g_iadd K dX9_command_168 ?_
                          refine g_iconst (v := 4) K dX9_command_169 rfl ?_
                          refine g_callV (st' := fun u29 => [.int (bI u29.1)]) (ws' := fun u29 => [((A 0), .inr (10, [.ref (A 1), .ref (A 2), .ref (A 3), .ref (A 4), .int mhasKept, .ref (A 5), .int mpasts, .ref (A 6), .int mreports, .int mthrown, .ref (A 7), .ref (A 8), .ref (A 9), .int mordering, .int mdetail, .ref (A 10), .int mlength, .int u29.2.1, .int u29.2.2.1, .ref (A 11), .int x21, .ref (A 12)])), ((A 1), .inl (cy 0, 672, .inl mg)), ((A 2), .inl (cy 0, 672, .inl mkept)), ((A 3), .inl (cy 0, 672, .inl mspare)), ((A 4), .inl (cy 0, 672, .inl mtrial)), ((A 5), .inl (cy 0, 5376, .inl mpast)), ((A 6), .inl (cy 0, 6, .inl mreport)), ((A 7), .inl (cy 0, 5, .inl mpart)), ((A 8), .inl (cy 0, 5, .inl mcome)), ((A 9), .inl (cy 0, 60, .inl morder)), ((A 10), .inl (cy 0, 80, .inl mtext)), ((A 11), .inl (cy 0, 200, .inl u29.2.2.2)), ((A 12), .inl (cy 0, 672, .inl mahead))]) K hR [.int (x1 + 4), .int 4] [] 0 rfl rfl (c_X9_puts X.2.1 (gxD X) cy sd A mg mkept mspare mtrial mpast mreport mpart mcome morder mtext u27.2.2.2 mahead mhasKept mpasts mreports mthrown mordering mdetail mlength u28.2 u27.2.2.1 x21 (x1 + 4) 4 hw) gX9_command_X9_puts rfl yok_X9_puts rfl rfl (by decide) rfl (Nat.le_of_ble_eq_true rfl) dX9_command_170 [0, 1, 2, 3, 4, 5, 6, 7, 8, 9, 10, 11, 12] rfl (by decide) (fun _ => rfl) (fun _ => rfl) (fun _ => rfl) ⟨rfl, rfl⟩ (fun u29 hw => ?_)
                          refine g_ifb_eq (tgt := 180) K dX9_command_173 (by decide) (fun hc => ?_) (fun hc => ?_)
                          · replace hw := hw.2 hc
                            refine g_iconst (v := 0) K dX9_command_180 rfl ?_
                            exact g_zret K E Er (false, u29.2.1, u29.2.2.1, x21, u29.2.2.2) hw rfl rfl rfl (Nat.le_refl _) (Nat.le_refl _) dX9_command_181
                          · replace hw := hw.1 hc
                            refine g_iconst (v := 1) K dX9_command_176 rfl ?_
                            refine g_goto (tgt := 181) K dX9_command_177 (by decide) ?_
                            exact g_zret K E Er (true, u29.2.1, u29.2.2.1, x21, u29.2.2.2) hw rfl rfl rfl (Nat.le_refl _) (Nat.le_refl _) dX9_command_181
                · replace hw := hw.2 hc
                  refine g_iconst (v := 0) K dX9_command_128 rfl ?_
                  exact g_zret K E Er (false, u25.2.1, u25.2.2.1, x21, u25.2.2.2) hw rfl rfl rfl (Nat.le_refl _) (Nat.le_refl _) dX9_command_129
            · replace hw := hw.1 hc
              refine g_bipush (v := 61) K dX9_command_104 rfl ?_
              refine g_goto (tgt := 111) K dX9_command_106 (by decide) ?_
              refine g_callV (st' := fun u30 => [.int (bI u30.1)]) (ws' := fun u30 => [((A 0), .inr (10, [.ref (A 1), .ref (A 2), .ref (A 3), .ref (A 4), .int mhasKept, .ref (A 5), .int mpasts, .ref (A 6), .int mreports, .int mthrown, .ref (A 7), .ref (A 8), .ref (A 9), .int mordering, .int mdetail, .ref (A 10), .int mlength, .int u30.2, .int u23.2.2.1, .ref (A 11), .int x21, .ref (A 12)])), ((A 1), .inl (cy 0, 672, .inl mg)), ((A 2), .inl (cy 0, 672, .inl mkept)), ((A 3), .inl (cy 0, 672, .inl mspare)), ((A 4), .inl (cy 0, 672, .inl mtrial)), ((A 5), .inl (cy 0, 5376, .inl mpast)), ((A 6), .inl (cy 0, 6, .inl mreport)), ((A 7), .inl (cy 0, 5, .inl mpart)), ((A 8), .inl (cy 0, 5, .inl mcome)), ((A 9), .inl (cy 0, 60, .inl morder)), ((A 10), .inl (cy 0, 80, .inl mtext)), ((A 11), .inl (cy 0, 200, .inl u23.2.2.2)), ((A 12), .inl (cy 0, 672, .inl mahead))]) K hR [.int 61] [] 0 rfl rfl (c_X9_skips X.2.1 (gxD X) cy sd A mg mkept mspare mtrial mpast mreport mpart mcome morder mtext u23.2.2.2 mahead mhasKept mpasts mreports mthrown mordering mdetail mlength u23.2.1 u23.2.2.1 x21 61 hw) gX9_command_X9_skips rfl yok_X9_skips rfl rfl (by decide) rfl (Nat.le_of_ble_eq_true rfl) dX9_command_111 [0, 1, 2, 3, 4, 5, 6, 7, 8, 9, 10, 11, 12] rfl (by decide) (fun _ => rfl) (fun _ => rfl) (fun _ => rfl) ⟨rfl, rfl⟩ (fun u30 hw => ?_)
              refine g_ifb_eq (tgt := 128) K dX9_command_114 (by decide) (fun hc => ?_) (fun hc => ?_)
              · replace hw := hw.2 hc
                refine g_iconst (v := 0) K dX9_command_128 rfl ?_
                exact g_zret K E Er (false, u30.2, u23.2.2.1, x21, u23.2.2.2) hw rfl rfl rfl (Nat.le_refl _) (Nat.le_refl _) dX9_command_129
              · replace hw := hw.1 hc
                refine g_aload_n K 2 dX9_command_117 rfl ?_
                refine g_iload_n K 1 dX9_command_118 rfl ?_
                refine g_iconst (v := 2) K dX9_command_119 rfl ?_
                refine g_iadd K dX9_command_120 ?_
                refine g_iconst (v := 4) K dX9_command_121 rfl ?_
                refine g_callV (st' := fun u31 => [.int (bI u31.1)]) (ws' := fun u31 => [((A 0), .inr (10, [.ref (A 1), .ref (A 2), .ref (A 3), .ref (A 4), .int mhasKept, .ref (A 5), .int mpasts, .ref (A 6), .int mreports, .int mthrown, .ref (A 7), .ref (A 8), .ref (A 9), .int mordering, .int mdetail, .ref (A 10), .int mlength, .int u31.2.1, .int u31.2.2.1, .ref (A 11), .int x21, .ref (A 12)])), ((A 1), .inl (cy 0, 672, .inl mg)), ((A 2), .inl (cy 0, 672, .inl mkept)), ((A 3), .inl (cy 0, 672, .inl mspare)), ((A 4), .inl (cy 0, 672, .inl mtrial)), ((A 5), .inl (cy 0, 5376, .inl mpast)), ((A 6), .inl (cy 0, 6, .inl mreport)), ((A 7), .inl (cy 0, 5, .inl mpart)), ((A 8), .inl (cy 0, 5, .inl mcome)), ((A 9), .inl (cy 0, 60, .inl morder)), ((A 10), .inl (cy 0, 80, .inl mtext)), ((A 11), .inl (cy 0, 200, .inl u31.2.2.2)), ((A 12), .inl (cy 0, 672, .inl mahead))]) K hR [.int (x1 + 2), .int 4] [] 0 rfl rfl (c_X9_puts X.2.1 (gxD X) cy sd A mg mkept mspare mtrial mpast mreport mpart mcome morder mtext u23.2.2.2 mahead mhasKept mpasts mreports mthrown mordering mdetail mlength u30.2 u23.2.2.1 x21 (x1 + 2) 4 hw) gX9_command_X9_puts rfl yok_X9_puts rfl rfl (by decide) rfl (Nat.le_of_ble_eq_true rfl) dX9_command_122 [0, 1, 2, 3, 4, 5, 6, 7, 8, 9, 10, 11, 12] rfl (by decide) (fun _ => rfl) (fun _ => rfl) (fun _ => rfl) ⟨rfl, rfl⟩ (fun u31 hw => ?_)
                refine g_ifb_ne (tgt := 130) K dX9_command_125 (by decide) (fun hc => ?_) (fun hc => ?_)
                · replace hw := hw.1 hc
                  refine g_iload_n K 0 dX9_command_130 rfl ?_
                  refine g_bipush (v := 102) K dX9_command_131 rfl ?_
                  refine g_icmp_eq (tgt := 176) K dX9_command_133 (by decide) (fun hc => ?_) (fun hc => ?_)
                  · replace hw := hw.1 hc
                    refine g_iconst (v := 1) K dX9_command_176 rfl ?_
                    refine g_goto (tgt := 181) K dX9_command_177 (by decide) ?_
                    exact g_zret K E Er (true, u31.2.1, u31.2.2.1, x21, u31.2.2.2) hw rfl rfl rfl (Nat.le_refl _) (Nat.le_refl _) dX9_command_181
                  · replace hw := hw.2 hc
                    refine g_aload_n K 2 dX9_command_136 rfl ?_
                    refine g_bipush (v := 42) K dX9_command_137 rfl ?_
                    refine g_callV (st' := fun u32 => [.int (bI u32.1)]) (ws' := fun u32 => [((A 0), .inr (10, [.ref (A 1), .ref (A 2), .ref (A 3), .ref (A 4), .int mhasKept, .ref (A 5), .int mpasts, .ref (A 6), .int mreports, .int mthrown, .ref (A 7), .ref (A 8), .ref (A 9), .int mordering, .int mdetail, .ref (A 10), .int mlength, .int u32.2, .int u31.2.2.1, .ref (A 11), .int x21, .ref (A 12)])), ((A 1), .inl (cy 0, 672, .inl mg)), ((A 2), .inl (cy 0, 672, .inl mkept)), ((A 3), .inl (cy 0, 672, .inl mspare)), ((A 4), .inl (cy 0, 672, .inl mtrial)), ((A 5), .inl (cy 0, 5376, .inl mpast)), ((A 6), .inl (cy 0, 6, .inl mreport)), ((A 7), .inl (cy 0, 5, .inl mpart)), ((A 8), .inl (cy 0, 5, .inl mcome)), ((A 9), .inl (cy 0, 60, .inl morder)), ((A 10), .inl (cy 0, 80, .inl mtext)), ((A 11), .inl (cy 0, 200, .inl u31.2.2.2)), ((A 12), .inl (cy 0, 672, .inl mahead))]) K hR [.int 42] [] 0 rfl rfl (c_X9_skips X.2.1 (gxD X) cy sd A mg mkept mspare mtrial mpast mreport mpart mcome morder mtext u31.2.2.2 mahead mhasKept mpasts mreports mthrown mordering mdetail mlength u31.2.1 u31.2.2.1 x21 42 hw) gX9_command_X9_skips rfl yok_X9_skips rfl rfl (by decide) rfl (Nat.le_of_ble_eq_true rfl) dX9_command_139 [0, 1, 2, 3, 4, 5, 6, 7, 8, 9, 10, 11, 12] rfl (by decide) (fun _ => rfl) (fun _ => rfl) (fun _ => rfl) ⟨rfl, rfl⟩ (fun u32 hw => ?_)
                    refine g_ifb_eq (tgt := 180) K dX9_command_142 (by decide) (fun hc => ?_) (fun hc => ?_)
                    · replace hw := hw.2 hc
                      refine g_iconst (v := 0) K dX9_command_180 rfl ?_
                      exact g_zret K E Er (false, u32.2, u31.2.2.1, x21, u31.2.2.2) hw rfl rfl rfl (Nat.le_refl _) (Nat.le_refl _) dX9_command_181
                    · replace hw := hw.1 hc
                      refine g_aload_n K 2 dX9_command_145 rfl ?_
                      refine g_iload_n K 1 dX9_command_146 rfl ?_
                      refine g_iconst (v := 3) K dX9_command_147 rfl ?_
                      refine g_iadd K dX9_command_148 ?_
                      refine g_iconst (v := 4) K dX9_command_149 rfl ?_
                      refine g_callV (st' := fun u33 => [.int (bI u33.1)]) (ws' := fun u33 => [((A 0), .inr (10, [.ref (A 1), .ref (A 2), .ref (A 3), .ref (A 4), .int mhasKept, .ref (A 5), .int mpasts, .ref (A 6), .int mreports, .int mthrown, .ref (A 7), .ref (A 8), .ref (A 9), .int mordering, .int mdetail, .ref (A 10), .int mlength, .int u33.2.1, .int u33.2.2.1, .ref (A 11), .int x21, .ref (A 12)])), ((A 1), .inl (cy 0, 672, .inl mg)), ((A 2), .inl (cy 0, 672, .inl mkept)), ((A 3), .inl (cy 0, 672, .inl mspare)), ((A 4), .inl (cy 0, 672, .inl mtrial)), ((A 5), .inl (cy 0, 5376, .inl mpast)), ((A 6), .inl (cy 0, 6, .inl mreport)), ((A 7), .inl (cy 0, 5, .inl mpart)), ((A 8), .inl (cy 0, 5, .inl mcome)), ((A 9), .inl (cy 0, 60, .inl morder)), ((A 10), .inl (cy 0, 80, .inl mtext)), ((A 11), .inl (cy 0, 200, .inl u33.2.2.2)), ((A 12), .inl (cy 0, 672, .inl mahead))]) K hR [.int (x1 + 3), .int 4] [] 0 rfl rfl (c_X9_puts X.2.1 (gxD X) cy sd A mg mkept mspare mtrial mpast mreport mpart mcome morder mtext u31.2.2.2 mahead mhasKept mpasts mreports mthrown mordering mdetail mlength u32.2 u31.2.2.1 x21 (x1 + 3) 4 hw) gX9_command_X9_puts rfl yok_X9_puts rfl rfl (by decide) rfl (Nat.le_of_ble_eq_true rfl) dX9_command_150 [0, 1, 2, 3, 4, 5, 6, 7, 8, 9, 10, 11, 12] rfl (by decide) (fun _ => rfl) (fun _ => rfl) (fun _ => rfl) ⟨rfl, rfl⟩ (fun u33 hw => ?_)
                      refine g_ifb_eq (tgt := 180) K dX9_command_153 (by decide) (fun hc => ?_) (fun hc => ?_)
                      · replace hw := hw.2 hc
                        refine g_iconst (v := 0) K dX9_command_180 rfl ?_
                        exact g_zret K E Er (false, u33.2.1, u33.2.2.1, x21, u33.2.2.2) hw rfl rfl rfl (Nat.le_refl _) (Nat.le_refl _) dX9_command_181
                      · replace hw := hw.1 hc
                        refine g_aload_n K 2 dX9_command_156 rfl ?_
                        refine g_bipush (v := 36) K dX9_command_157 rfl ?_
                        refine g_callV (st' := fun u34 => [.int (bI u34.1)]) (ws' := fun u34 => [((A 0), .inr (10, [.ref (A 1), .ref (A 2), .ref (A 3), .ref (A 4), .int mhasKept, .ref (A 5), .int mpasts, .ref (A 6), .int mreports, .int mthrown, .ref (A 7), .ref (A 8), .ref (A 9), .int mordering, .int mdetail, .ref (A 10), .int mlength, .int u34.2, .int u33.2.2.1, .ref (A 11), .int x21, .ref (A 12)])), ((A 1), .inl (cy 0, 672, .inl mg)), ((A 2), .inl (cy 0, 672, .inl mkept)), ((A 3), .inl (cy 0, 672, .inl mspare)), ((A 4), .inl (cy 0, 672, .inl mtrial)), ((A 5), .inl (cy 0, 5376, .inl mpast)), ((A 6), .inl (cy 0, 6, .inl mreport)), ((A 7), .inl (cy 0, 5, .inl mpart)), ((A 8), .inl (cy 0, 5, .inl mcome)), ((A 9), .inl (cy 0, 60, .inl morder)), ((A 10), .inl (cy 0, 80, .inl mtext)), ((A 11), .inl (cy 0, 200, .inl u33.2.2.2)), ((A 12), .inl (cy 0, 672, .inl mahead))]) K hR [.int 36] [] 0 rfl rfl (c_X9_skips X.2.1 (gxD X) cy sd A mg mkept mspare mtrial mpast mreport mpart mcome morder mtext u33.2.2.2 mahead mhasKept mpasts mreports mthrown mordering mdetail mlength u33.2.1 u33.2.2.1 x21 36 hw) gX9_command_X9_skips rfl yok_X9_skips rfl rfl (by decide) rfl (Nat.le_of_ble_eq_true rfl) dX9_command_159 [0, 1, 2, 3, 4, 5, 6, 7, 8, 9, 10, 11, 12] rfl (by decide) (fun _ => rfl) (fun _ => rfl) (fun _ => rfl) ⟨rfl, rfl⟩ (fun u34 hw => ?_)
                        refine g_ifb_eq (tgt := 180) K dX9_command_162 (by decide) (fun hc => ?_) (fun hc => ?_)
                        · replace hw := hw.2 hc
                          refine g_iconst (v := 0) K dX9_command_180 rfl ?_
                          exact g_zret K E Er (false, u34.2, u33.2.2.1, x21, u33.2.2.2) hw rfl rfl rfl (Nat.le_refl _) (Nat.le_refl _) dX9_command_181
                        · replace hw := hw.1 hc
                          refine g_aload_n K 2 dX9_command_165 rfl ?_
                          refine g_iload_n K 1 dX9_command_166 rfl ?_
                          refine g_iconst (v := 4) K dX9_command_167 rfl ?_
                          refine g_iadd K dX9_command_168 ?_
                          refine g_iconst (v := 4) K dX9_command_169 rfl ?_
                          refine g_callV (st' := fun u35 => [.int (bI u35.1)]) (ws' := fun u35 => [((A 0), .inr (10, [.ref (A 1), .ref (A 2), .ref (A 3), .ref (A 4), .int mhasKept, .ref (A 5), .int mpasts, .ref (A 6), .int mreports, .int mthrown, .ref (A 7), .ref (A 8), .ref (A 9), .int mordering, .int mdetail, .ref (A 10), .int mlength, .int u35.2.1, .int u35.2.2.1, .ref (A 11), .int x21, .ref (A 12)])), ((A 1), .inl (cy 0, 672, .inl mg)), ((A 2), .inl (cy 0, 672, .inl mkept)), ((A 3), .inl (cy 0, 672, .inl mspare)), ((A 4), .inl (cy 0, 672, .inl mtrial)), ((A 5), .inl (cy 0, 5376, .inl mpast)), ((A 6), .inl (cy 0, 6, .inl mreport)), ((A 7), .inl (cy 0, 5, .inl mpart)), ((A 8), .inl (cy 0, 5, .inl mcome)), ((A 9), .inl (cy 0, 60, .inl morder)), ((A 10), .inl (cy 0, 80, .inl mtext)), ((A 11), .inl (cy 0, 200, .inl u35.2.2.2)), ((A 12), .inl (cy 0, 672, .inl mahead))]) K hR [.int (x1 + 4), .int 4] [] 0 rfl rfl (c_X9_puts X.2.1 (gxD X) cy sd A mg mkept mspare mtrial mpast mreport mpart mcome morder mtext u33.2.2.2 mahead mhasKept mpasts mreports mthrown mordering mdetail mlength u34.2 u33.2.2.1 x21 (x1 + 4) 4 hw) gX9_command_X9_puts rfl yok_X9_puts rfl rfl (by decide) rfl (Nat.le_of_ble_eq_true rfl) dX9_command_170 [0, 1, 2, 3, 4, 5, 6, 7, 8, 9, 10, 11, 12] rfl (by decide) (fun _ => rfl) (fun _ => rfl) (fun _ => rfl) ⟨rfl, rfl⟩ (fun u35 hw => ?_)
                          refine g_ifb_eq (tgt := 180) K dX9_command_173 (by decide) (fun hc => ?_) (fun hc => ?_)
                          · replace hw := hw.2 hc
                            refine g_iconst (v := 0) K dX9_command_180 rfl ?_
                            exact g_zret K E Er (false, u35.2.1, u35.2.2.1, x21, u35.2.2.2) hw rfl rfl rfl (Nat.le_refl _) (Nat.le_refl _) dX9_command_181
                          · replace hw := hw.1 hc
                            refine g_iconst (v := 1) K dX9_command_176 rfl ?_
                            refine g_goto (tgt := 181) K dX9_command_177 (by decide) ?_
                            exact g_zret K E Er (true, u35.2.1, u35.2.2.1, x21, u35.2.2.2) hw rfl rfl rfl (Nat.le_refl _) (Nat.le_refl _) dX9_command_181
                · replace hw := hw.2 hc
                  refine g_iconst (v := 0) K dX9_command_128 rfl ?_
                  exact g_zret K E Er (false, u31.2.1, u31.2.2.1, x21, u31.2.2.2) hw rfl rfl rfl (Nat.le_refl _) (Nat.le_refl _) dX9_command_129
        · replace hw := hw.1 hc
          refine g_aload_n K 2 dX9_command_77 rfl ?_
          refine g_iload_n K 1 dX9_command_78 rfl ?_
          refine g_iconst (v := 1) K dX9_command_79 rfl ?_
          refine g_iadd K dX9_command_80 ?_
          refine g_iconst (v := 4) K dX9_command_81 rfl ?_
          refine g_callV (st' := fun u36 => [.int (bI u36.1)]) (ws' := fun u36 => [((A 0), .inr (10, [.ref (A 1), .ref (A 2), .ref (A 3), .ref (A 4), .int mhasKept, .ref (A 5), .int mpasts, .ref (A 6), .int mreports, .int mthrown, .ref (A 7), .ref (A 8), .ref (A 9), .int mordering, .int mdetail, .ref (A 10), .int mlength, .int u36.2.1, .int u36.2.2.1, .ref (A 11), .int x21, .ref (A 12)])), ((A 1), .inl (cy 0, 672, .inl mg)), ((A 2), .inl (cy 0, 672, .inl mkept)), ((A 3), .inl (cy 0, 672, .inl mspare)), ((A 4), .inl (cy 0, 672, .inl mtrial)), ((A 5), .inl (cy 0, 5376, .inl mpast)), ((A 6), .inl (cy 0, 6, .inl mreport)), ((A 7), .inl (cy 0, 5, .inl mpart)), ((A 8), .inl (cy 0, 5, .inl mcome)), ((A 9), .inl (cy 0, 60, .inl morder)), ((A 10), .inl (cy 0, 80, .inl mtext)), ((A 11), .inl (cy 0, 200, .inl u36.2.2.2)), ((A 12), .inl (cy 0, 672, .inl mahead))]) K hR [.int (x1 + 1), .int 4] [] 0 rfl rfl (c_X9_puts X.2.1 (gxD X) cy sd A mg mkept mspare mtrial mpast mreport mpart mcome morder mtext (upd mtold (x1).toNatClampNeg u2) mahead mhasKept mpasts mreports mthrown mordering mdetail mlength x20 mnumber x21 (x1 + 1) 4 hw) gX9_command_X9_puts rfl yok_X9_puts rfl rfl (by decide) rfl (Nat.le_of_ble_eq_true rfl) dX9_command_82 [0, 1, 2, 3, 4, 5, 6, 7, 8, 9, 10, 11, 12] rfl (by decide) (fun _ => rfl) (fun _ => rfl) (fun _ => rfl) ⟨rfl, rfl⟩ (fun u36 hw => ?_)
          exact g_zret K E Er (u36.1, u36.2.1, u36.2.2.1, x21, u36.2.2.2) hw rfl (bI_narrow _) rfl (Nat.le_refl _) (Nat.le_refl _) dX9_command_85
    · replace hw := hw.2 hc
      refine g_iload_n K 0 dX9_command_24 rfl ?_
      refine g_bipush (v := 99) K dX9_command_25 rfl ?_
      refine g_icmp_eq (tgt := 38) K dX9_command_27 (by decide) (fun hc => ?_) (fun hc => ?_)
      · replace hw := hw.1 hc
        refine g_aload_n K 2 dX9_command_38 rfl ?_
        refine g_get K (C := RX9) (T := TX9) (N := 22) 0 19 in_X9_command_X9 (by decide +kernel) rfl rfl (by decide) rfl dX9_command_39 ?_
        refine g_iload_n K 1 dX9_command_42 rfl ?_
        refine g_iload_n K 0 dX9_command_43 rfl ?_
        refine g_iast (ws' := [((A 0), .inr (10, [.ref (A 1), .ref (A 2), .ref (A 3), .ref (A 4), .int mhasKept, .ref (A 5), .int mpasts, .ref (A 6), .int mreports, .int mthrown, .ref (A 7), .ref (A 8), .ref (A 9), .int mordering, .int mdetail, .ref (A 10), .int mlength, .int mspot, .int mnumber, .ref (A 11), .int mtolds, .ref (A 12)])), ((A 1), .inl (cy 0, 672, .inl mg)), ((A 2), .inl (cy 0, 672, .inl mkept)), ((A 3), .inl (cy 0, 672, .inl mspare)), ((A 4), .inl (cy 0, 672, .inl mtrial)), ((A 5), .inl (cy 0, 5376, .inl mpast)), ((A 6), .inl (cy 0, 6, .inl mreport)), ((A 7), .inl (cy 0, 5, .inl mpart)), ((A 8), .inl (cy 0, 5, .inl mcome)), ((A 9), .inl (cy 0, 60, .inl morder)), ((A 10), .inl (cy 0, 80, .inl mtext)), ((A 11), .inl (cy 0, 200, .inl (upd mtold (x1).toNatClampNeg u2))), ((A 12), .inl (cy 0, 672, .inl mahead))]) K 11 0 rfl rfl hw.1 rfl dX9_command_44 ?_
        replace hw := hw.2
        refine g_aload_n K 2 dX9_command_45 rfl ?_
        refine g_dup K dX9_command_46 rfl ?_
        refine g_get K (C := RX9) (T := TX9) (N := 22) 0 17 in_X9_command_X9 (by decide +kernel) rfl rfl (by decide) rfl dX9_command_47 ?_
        refine g_iconst (v := 1) K dX9_command_50 rfl ?_
        refine g_iadd K dX9_command_51 ?_
        refine g_topi (fun x37 ex37 => ?_)
        replace hw := hw x37 ex37
        refine g_put (ty := .int) (ws' := [((A 0), .inr (10, [.ref (A 1), .ref (A 2), .ref (A 3), .ref (A 4), .int mhasKept, .ref (A 5), .int mpasts, .ref (A 6), .int mreports, .int mthrown, .ref (A 7), .ref (A 8), .ref (A 9), .int mordering, .int mdetail, .ref (A 10), .int mlength, .int x37, .int mnumber, .ref (A 11), .int mtolds, .ref (A 12)])), ((A 1), .inl (cy 0, 672, .inl mg)), ((A 2), .inl (cy 0, 672, .inl mkept)), ((A 3), .inl (cy 0, 672, .inl mspare)), ((A 4), .inl (cy 0, 672, .inl mtrial)), ((A 5), .inl (cy 0, 5376, .inl mpast)), ((A 6), .inl (cy 0, 6, .inl mreport)), ((A 7), .inl (cy 0, 5, .inl mpart)), ((A 8), .inl (cy 0, 5, .inl mcome)), ((A 9), .inl (cy 0, 60, .inl morder)), ((A 10), .inl (cy 0, 80, .inl mtext)), ((A 11), .inl (cy 0, 200, .inl (upd mtold (x1).toNatClampNeg u2))), ((A 12), .inl (cy 0, 672, .inl mahead))]) K (C := RX9) (T := TX9) (N := 22) 0 17 in_X9_command_X9 tyX9 tyX9_ok nmX9 (by decide +kernel) rfl rfl (by decide) rfl (by decide +kernel) rfl rfl (Nat.le_of_ble_eq_true rfl) rfl dX9_command_52 ?_
        refine g_aload_n K 2 dX9_command_55 rfl ?_
        refine g_dup K dX9_command_56 rfl ?_
        refine g_get K (C := RX9) (T := TX9) (N := 22) 0 20 in_X9_command_X9 (by decide +kernel) rfl rfl (by decide) rfl dX9_command_57 ?_
        refine g_iconst (v := 1) K dX9_command_60 rfl ?_
        refine g_iadd K dX9_command_61 ?_
        refine g_topi (fun x38 ex38 => ?_)
        replace hw := hw x38 ex38
        refine g_put (ty := .int) (ws' := [((A 0), .inr (10, [.ref (A 1), .ref (A 2), .ref (A 3), .ref (A 4), .int mhasKept, .ref (A 5), .int mpasts, .ref (A 6), .int mreports, .int mthrown, .ref (A 7), .ref (A 8), .ref (A 9), .int mordering, .int mdetail, .ref (A 10), .int mlength, .int x37, .int mnumber, .ref (A 11), .int x38, .ref (A 12)])), ((A 1), .inl (cy 0, 672, .inl mg)), ((A 2), .inl (cy 0, 672, .inl mkept)), ((A 3), .inl (cy 0, 672, .inl mspare)), ((A 4), .inl (cy 0, 672, .inl mtrial)), ((A 5), .inl (cy 0, 5376, .inl mpast)), ((A 6), .inl (cy 0, 6, .inl mreport)), ((A 7), .inl (cy 0, 5, .inl mpart)), ((A 8), .inl (cy 0, 5, .inl mcome)), ((A 9), .inl (cy 0, 60, .inl morder)), ((A 10), .inl (cy 0, 80, .inl mtext)), ((A 11), .inl (cy 0, 200, .inl (upd mtold (x1).toNatClampNeg u2))), ((A 12), .inl (cy 0, 672, .inl mahead))]) K (C := RX9) (T := TX9) (N := 22) 0 20 in_X9_command_X9 tyX9 tyX9_ok nmX9 (by decide +kernel) rfl rfl (by decide) rfl (by decide +kernel) rfl rfl (Nat.le_of_ble_eq_true rfl) rfl dX9_command_62 ?_
        refine g_iload_n K 0 dX9_command_65 rfl ?_
        refine g_bipush (v := 114) K dX9_command_66 rfl ?_
        refine g_icmp_eq (tgt := 77) K dX9_command_68 (by decide) (fun hc => ?_) (fun hc => ?_)
        · replace hw := hw.1 hc
          refine g_aload_n K 2 dX9_command_77 rfl ?_
          refine g_iload_n K 1 dX9_command_78 rfl ?_
          refine g_iconst (v := 1) K dX9_command_79 rfl ?_
          refine g_iadd K dX9_command_80 ?_
          refine g_iconst (v := 4) K dX9_command_81 rfl ?_
          refine g_callV (st' := fun u39 => [.int (bI u39.1)]) (ws' := fun u39 => [((A 0), .inr (10, [.ref (A 1), .ref (A 2), .ref (A 3), .ref (A 4), .int mhasKept, .ref (A 5), .int mpasts, .ref (A 6), .int mreports, .int mthrown, .ref (A 7), .ref (A 8), .ref (A 9), .int mordering, .int mdetail, .ref (A 10), .int mlength, .int u39.2.1, .int u39.2.2.1, .ref (A 11), .int x38, .ref (A 12)])), ((A 1), .inl (cy 0, 672, .inl mg)), ((A 2), .inl (cy 0, 672, .inl mkept)), ((A 3), .inl (cy 0, 672, .inl mspare)), ((A 4), .inl (cy 0, 672, .inl mtrial)), ((A 5), .inl (cy 0, 5376, .inl mpast)), ((A 6), .inl (cy 0, 6, .inl mreport)), ((A 7), .inl (cy 0, 5, .inl mpart)), ((A 8), .inl (cy 0, 5, .inl mcome)), ((A 9), .inl (cy 0, 60, .inl morder)), ((A 10), .inl (cy 0, 80, .inl mtext)), ((A 11), .inl (cy 0, 200, .inl u39.2.2.2)), ((A 12), .inl (cy 0, 672, .inl mahead))]) K hR [.int (x1 + 1), .int 4] [] 0 rfl rfl (c_X9_puts X.2.1 (gxD X) cy sd A mg mkept mspare mtrial mpast mreport mpart mcome morder mtext (upd mtold (x1).toNatClampNeg u2) mahead mhasKept mpasts mreports mthrown mordering mdetail mlength x37 mnumber x38 (x1 + 1) 4 hw) gX9_command_X9_puts rfl yok_X9_puts rfl rfl (by decide) rfl (Nat.le_of_ble_eq_true rfl) dX9_command_82 [0, 1, 2, 3, 4, 5, 6, 7, 8, 9, 10, 11, 12] rfl (by decide) (fun _ => rfl) (fun _ => rfl) (fun _ => rfl) ⟨rfl, rfl⟩ (fun u39 hw => ?_)
          exact g_zret K E Er (u39.1, u39.2.1, u39.2.2.1, x38, u39.2.2.2) hw rfl (bI_narrow _) rfl (Nat.le_refl _) (Nat.le_refl _) dX9_command_85
        · replace hw := hw.2 hc
          refine g_iload_n K 0 dX9_command_71 rfl ?_
          refine g_bipush (v := 115) K dX9_command_72 rfl ?_
          refine g_icmp_ne (tgt := 86) K dX9_command_74 (by decide) (fun hc => ?_) (fun hc => ?_)
          · replace hw := hw.2 hc
            refine g_aload_n K 2 dX9_command_86 rfl ?_
            refine g_iload_n K 1 dX9_command_87 rfl ?_
            refine g_iconst (v := 1) K dX9_command_88 rfl ?_
            refine g_iadd K dX9_command_89 ?_
            refine g_iconst (v := 1) K dX9_command_90 rfl ?_
            refine g_callV (st' := fun u40 => [.int (bI u40.1)]) (ws' := fun u40 => [((A 0), .inr (10, [.ref (A 1), .ref (A 2), .ref (A 3), .ref (A 4), .int mhasKept, .ref (A 5), .int mpasts, .ref (A 6), .int mreports, .int mthrown, .ref (A 7), .ref (A 8), .ref (A 9), .int mordering, .int mdetail, .ref (A 10), .int mlength, .int u40.2.1, .int u40.2.2.1, .ref (A 11), .int x38, .ref (A 12)])), ((A 1), .inl (cy 0, 672, .inl mg)), ((A 2), .inl (cy 0, 672, .inl mkept)), ((A 3), .inl (cy 0, 672, .inl mspare)), ((A 4), .inl (cy 0, 672, .inl mtrial)), ((A 5), .inl (cy 0, 5376, .inl mpast)), ((A 6), .inl (cy 0, 6, .inl mreport)), ((A 7), .inl (cy 0, 5, .inl mpart)), ((A 8), .inl (cy 0, 5, .inl mcome)), ((A 9), .inl (cy 0, 60, .inl morder)), ((A 10), .inl (cy 0, 80, .inl mtext)), ((A 11), .inl (cy 0, 200, .inl u40.2.2.2)), ((A 12), .inl (cy 0, 672, .inl mahead))]) K hR [.int (x1 + 1), .int 1] [] 0 rfl rfl (c_X9_puts X.2.1 (gxD X) cy sd A mg mkept mspare mtrial mpast mreport mpart mcome morder mtext (upd mtold (x1).toNatClampNeg u2) mahead mhasKept mpasts mreports mthrown mordering mdetail mlength x37 mnumber x38 (x1 + 1) 1 hw) gX9_command_X9_puts rfl yok_X9_puts rfl rfl (by decide) rfl (Nat.le_of_ble_eq_true rfl) dX9_command_91 [0, 1, 2, 3, 4, 5, 6, 7, 8, 9, 10, 11, 12] rfl (by decide) (fun _ => rfl) (fun _ => rfl) (fun _ => rfl) ⟨rfl, rfl⟩ (fun u40 hw => ?_)
            refine g_ifb_eq (tgt := 128) K dX9_command_94 (by decide) (fun hc => ?_) (fun hc => ?_)
            · replace hw := hw.2 hc
              refine g_iconst (v := 0) K dX9_command_128 rfl ?_
              exact g_zret K E Er (false, u40.2.1, u40.2.2.1, x38, u40.2.2.2) hw rfl rfl rfl (Nat.le_refl _) (Nat.le_refl _) dX9_command_129
            · replace hw := hw.1 hc
              refine g_aload_n K 2 dX9_command_97 rfl ?_
              refine g_iload_n K 0 dX9_command_98 rfl ?_
              refine g_bipush (v := 102) K dX9_command_99 rfl ?_
              refine g_icmp_ne (tgt := 109) K dX9_command_101 (by decide) (fun hc => ?_) (fun hc => ?_)
              · replace hw := hw.2 hc
                refine g_bipush (v := 64) K dX9_command_109 rfl ?_
                refine g_callV (st' := fun u41 => [.int (bI u41.1)]) (ws' := fun u41 => [((A 0), .inr (10, [.ref (A 1), .ref (A 2), .ref (A 3), .ref (A 4), .int mhasKept, .ref (A 5), .int mpasts, .ref (A 6), .int mreports, .int mthrown, .ref (A 7), .ref (A 8), .ref (A 9), .int mordering, .int mdetail, .ref (A 10), .int mlength, .int u41.2, .int u40.2.2.1, .ref (A 11), .int x38, .ref (A 12)])), ((A 1), .inl (cy 0, 672, .inl mg)), ((A 2), .inl (cy 0, 672, .inl mkept)), ((A 3), .inl (cy 0, 672, .inl mspare)), ((A 4), .inl (cy 0, 672, .inl mtrial)), ((A 5), .inl (cy 0, 5376, .inl mpast)), ((A 6), .inl (cy 0, 6, .inl mreport)), ((A 7), .inl (cy 0, 5, .inl mpart)), ((A 8), .inl (cy 0, 5, .inl mcome)), ((A 9), .inl (cy 0, 60, .inl morder)), ((A 10), .inl (cy 0, 80, .inl mtext)), ((A 11), .inl (cy 0, 200, .inl u40.2.2.2)), ((A 12), .inl (cy 0, 672, .inl mahead))]) K hR [.int 64] [] 0 rfl rfl (c_X9_skips X.2.1 (gxD X) cy sd A mg mkept mspare mtrial mpast mreport mpart mcome morder mtext u40.2.2.2 mahead mhasKept mpasts mreports mthrown mordering mdetail mlength u40.2.1 u40.2.2.1 x38 64 hw) gX9_command_X9_skips rfl yok_X9_skips rfl rfl (by decide) rfl (Nat.le_of_ble_eq_true rfl) dX9_command_111 [0, 1, 2, 3, 4, 5, 6, 7, 8, 9, 10, 11, 12] rfl (by decide) (fun _ => rfl) (fun _ => rfl) (fun _ => rfl) ⟨rfl, rfl⟩ (fun u41 hw => ?_)
                refine g_ifb_eq (tgt := 128) K dX9_command_114 (by decide) (fun hc => ?_) (fun hc => ?_)
                · replace hw := hw.2 hc
                  refine g_iconst (v := 0) K dX9_command_128 rfl ?_
                  exact g_zret K E Er (false, u41.2, u40.2.2.1, x38, u40.2.2.2) hw rfl rfl rfl (Nat.le_refl _) (Nat.le_refl _) dX9_command_129
                · replace hw := hw.1 hc
                  refine g_aload_n K 2 dX9_command_117 rfl ?_
                  refine g_iload_n K 1 dX9_command_118 rfl ?_
                  refine g_iconst (v := 2) K dX9_command_119 rfl ?_
                  refine g_iadd K dX9_command_120 ?_
                  refine g_iconst (v := 4) K dX9_command_121 rfl ?_
                  refine g_callV (st' := fun u42 => [.int (bI u42.1)]) (ws' := fun u42 => [((A 0), .inr (10, [.ref (A 1), .ref (A 2), .ref (A 3), .ref (A 4), .int mhasKept, .ref (A 5), .int mpasts, .ref (A 6), .int mreports, .int mthrown, .ref (A 7), .ref (A 8), .ref (A 9), .int mordering, .int mdetail, .ref (A 10), .int mlength, .int u42.2.1, .int u42.2.2.1, .ref (A 11), .int x38, .ref (A 12)])), ((A 1), .inl (cy 0, 672, .inl mg)), ((A 2), .inl (cy 0, 672, .inl mkept)), ((A 3), .inl (cy 0, 672, .inl mspare)), ((A 4), .inl (cy 0, 672, .inl mtrial)), ((A 5), .inl (cy 0, 5376, .inl mpast)), ((A 6), .inl (cy 0, 6, .inl mreport)), ((A 7), .inl (cy 0, 5, .inl mpart)), ((A 8), .inl (cy 0, 5, .inl mcome)), ((A 9), .inl (cy 0, 60, .inl morder)), ((A 10), .inl (cy 0, 80, .inl mtext)), ((A 11), .inl (cy 0, 200, .inl u42.2.2.2)), ((A 12), .inl (cy 0, 672, .inl mahead))]) K hR [.int (x1 + 2), .int 4] [] 0 rfl rfl (c_X9_puts X.2.1 (gxD X) cy sd A mg mkept mspare mtrial mpast mreport mpart mcome morder mtext u40.2.2.2 mahead mhasKept mpasts mreports mthrown mordering mdetail mlength u41.2 u40.2.2.1 x38 (x1 + 2) 4 hw) gX9_command_X9_puts rfl yok_X9_puts rfl rfl (by decide) rfl (Nat.le_of_ble_eq_true rfl) dX9_command_122 [0, 1, 2, 3, 4, 5, 6, 7, 8, 9, 10, 11, 12] rfl (by decide) (fun _ => rfl) (fun _ => rfl) (fun _ => rfl) ⟨rfl, rfl⟩ (fun u42 hw => ?_)
                  refine g_ifb_ne (tgt := 130) K dX9_command_125 (by decide) (fun hc => ?_) (fun hc => ?_)
                  · replace hw := hw.1 hc
                    refine g_iload_n K 0 dX9_command_130 rfl ?_
                    refine g_bipush (v := 102) K dX9_command_131 rfl ?_
                    refine g_icmp_eq (tgt := 176) K dX9_command_133 (by decide) (fun hc => ?_) (fun hc => ?_)
                    · replace hw := hw.1 hc
                      refine g_iconst (v := 1) K dX9_command_176 rfl ?_
                      refine g_goto (tgt := 181) K dX9_command_177 (by decide) ?_
                      exact g_zret K E Er (true, u42.2.1, u42.2.2.1, x38, u42.2.2.2) hw rfl rfl rfl (Nat.le_refl _) (Nat.le_refl _) dX9_command_181
                    · replace hw := hw.2 hc
                      refine g_aload_n K 2 dX9_command_136 rfl ?_
                      refine g_bipush (v := 42) K dX9_command_137 rfl ?_
                      refine g_callV (st' := fun u43 => [.int (bI u43.1)]) (ws' := fun u43 => [((A 0), .inr (10, [.ref (A 1), .ref (A 2), .ref (A 3), .ref (A 4), .int mhasKept, .ref (A 5), .int mpasts, .ref (A 6), .int mreports, .int mthrown, .ref (A 7), .ref (A 8), .ref (A 9), .int mordering, .int mdetail, .ref (A 10), .int mlength, .int u43.2, .int u42.2.2.1, .ref (A 11), .int x38, .ref (A 12)])), ((A 1), .inl (cy 0, 672, .inl mg)), ((A 2), .inl (cy 0, 672, .inl mkept)), ((A 3), .inl (cy 0, 672, .inl mspare)), ((A 4), .inl (cy 0, 672, .inl mtrial)), ((A 5), .inl (cy 0, 5376, .inl mpast)), ((A 6), .inl (cy 0, 6, .inl mreport)), ((A 7), .inl (cy 0, 5, .inl mpart)), ((A 8), .inl (cy 0, 5, .inl mcome)), ((A 9), .inl (cy 0, 60, .inl morder)), ((A 10), .inl (cy 0, 80, .inl mtext)), ((A 11), .inl (cy 0, 200, .inl u42.2.2.2)), ((A 12), .inl (cy 0, 672, .inl mahead))]) K hR [.int 42] [] 0 rfl rfl (c_X9_skips X.2.1 (gxD X) cy sd A mg mkept mspare mtrial mpast mreport mpart mcome morder mtext u42.2.2.2 mahead mhasKept mpasts mreports mthrown mordering mdetail mlength u42.2.1 u42.2.2.1 x38 42 hw) gX9_command_X9_skips rfl yok_X9_skips rfl rfl (by decide) rfl (Nat.le_of_ble_eq_true rfl) dX9_command_139 [0, 1, 2, 3, 4, 5, 6, 7, 8, 9, 10, 11, 12] rfl (by decide) (fun _ => rfl) (fun _ => rfl) (fun _ => rfl) ⟨rfl, rfl⟩ (fun u43 hw => ?_)
                      refine g_ifb_eq (tgt := 180) K dX9_command_142 (by decide) (fun hc => ?_) (fun hc => ?_)
                      · replace hw := hw.2 hc
                        refine g_iconst (v := 0) K dX9_command_180 rfl ?_
                        exact g_zret K E Er (false, u43.2, u42.2.2.1, x38, u42.2.2.2) hw rfl rfl rfl (Nat.le_refl _) (Nat.le_refl _) dX9_command_181
                      · replace hw := hw.1 hc
                        refine g_aload_n K 2 dX9_command_145 rfl ?_
                        refine g_iload_n K 1 dX9_command_146 rfl ?_
                        refine g_iconst (v := 3) K dX9_command_147 rfl ?_
                        refine g_iadd K dX9_command_148 ?_
                        refine g_iconst (v := 4) K dX9_command_149 rfl ?_
                        refine g_callV (st' := fun u44 => [.int (bI u44.1)]) (ws' := fun u44 => [((A 0), .inr (10, [.ref (A 1), .ref (A 2), .ref (A 3), .ref (A 4), .int mhasKept, .ref (A 5), .int mpasts, .ref (A 6), .int mreports, .int mthrown, .ref (A 7), .ref (A 8), .ref (A 9), .int mordering, .int mdetail, .ref (A 10), .int mlength, .int u44.2.1, .int u44.2.2.1, .ref (A 11), .int x38, .ref (A 12)])), ((A 1), .inl (cy 0, 672, .inl mg)), ((A 2), .inl (cy 0, 672, .inl mkept)), ((A 3), .inl (cy 0, 672, .inl mspare)), ((A 4), .inl (cy 0, 672, .inl mtrial)), ((A 5), .inl (cy 0, 5376, .inl mpast)), ((A 6), .inl (cy 0, 6, .inl mreport)), ((A 7), .inl (cy 0, 5, .inl mpart)), ((A 8), .inl (cy 0, 5, .inl mcome)), ((A 9), .inl (cy 0, 60, .inl morder)), ((A 10), .inl (cy 0, 80, .inl mtext)), ((A 11), .inl (cy 0, 200, .inl u44.2.2.2)), ((A 12), .inl (cy 0, 672, .inl mahead))]) K hR [.int (x1 + 3), .int 4] [] 0 rfl rfl (c_X9_puts X.2.1 (gxD X) cy sd A mg mkept mspare mtrial mpast mreport mpart mcome morder mtext u42.2.2.2 mahead mhasKept mpasts mreports mthrown mordering mdetail mlength u43.2 u42.2.2.1 x38 (x1 + 3) 4 hw) gX9_command_X9_puts rfl yok_X9_puts rfl rfl (by decide) rfl (Nat.le_of_ble_eq_true rfl) dX9_command_150 [0, 1, 2, 3, 4, 5, 6, 7, 8, 9, 10, 11, 12] rfl (by decide) (fun _ => rfl) (fun _ => rfl) (fun _ => rfl) ⟨rfl, rfl⟩ (fun u44 hw => ?_)
                        refine g_ifb_eq (tgt := 180) K dX9_command_153 (by decide) (fun hc => ?_) (fun hc => ?_)
                        · replace hw := hw.2 hc
                          refine g_iconst (v := 0) K dX9_command_180 rfl ?_
                          exact g_zret K E Er (false, u44.2.1, u44.2.2.1, x38, u44.2.2.2) hw rfl rfl rfl (Nat.le_refl _) (Nat.le_refl _) dX9_command_181
                        · replace hw := hw.1 hc
                          refine g_aload_n K 2 dX9_command_156 rfl ?_
                          refine g_bipush (v := 36) K dX9_command_157 rfl ?_
                          refine g_callV (st' := fun u45 => [.int (bI u45.1)]) (ws' := fun u45 => [((A 0), .inr (10, [.ref (A 1), .ref (A 2), .ref (A 3), .ref (A 4), .int mhasKept, .ref (A 5), .int mpasts, .ref (A 6), .int mreports, .int mthrown, .ref (A 7), .ref (A 8), .ref (A 9), .int mordering, .int mdetail, .ref (A 10), .int mlength, .int u45.2, .int u44.2.2.1, .ref (A 11), .int x38, .ref (A 12)])), ((A 1), .inl (cy 0, 672, .inl mg)), ((A 2), .inl (cy 0, 672, .inl mkept)), ((A 3), .inl (cy 0, 672, .inl mspare)), ((A 4), .inl (cy 0, 672, .inl mtrial)), ((A 5), .inl (cy 0, 5376, .inl mpast)), ((A 6), .inl (cy 0, 6, .inl mreport)), ((A 7), .inl (cy 0, 5, .inl mpart)), ((A 8), .inl (cy 0, 5, .inl mcome)), ((A 9), .inl (cy 0, 60, .inl morder)), ((A 10), .inl (cy 0, 80, .inl mtext)), ((A 11), .inl (cy 0, 200, .inl u44.2.2.2)), ((A 12), .inl (cy 0, 672, .inl mahead))]) K hR [.int 36] [] 0 rfl rfl (c_X9_skips X.2.1 (gxD X) cy sd A mg mkept mspare mtrial mpast mreport mpart mcome morder mtext u44.2.2.2 mahead mhasKept mpasts mreports mthrown mordering mdetail mlength u44.2.1 u44.2.2.1 x38 36 hw) gX9_command_X9_skips rfl yok_X9_skips rfl rfl (by decide) rfl (Nat.le_of_ble_eq_true rfl) dX9_command_159 [0, 1, 2, 3, 4, 5, 6, 7, 8, 9, 10, 11, 12] rfl (by decide) (fun _ => rfl) (fun _ => rfl) (fun _ => rfl) ⟨rfl, rfl⟩ (fun u45 hw => ?_)
                          refine g_ifb_eq (tgt := 180) K dX9_command_162 (by decide) (fun hc => ?_) (fun hc => ?_)
                          · replace hw := hw.2 hc
                            refine g_iconst (v := 0) K dX9_command_180 rfl ?_
                            exact g_zret K E Er (false, u45.2, u44.2.2.1, x38, u44.2.2.2) hw rfl rfl rfl (Nat.le_refl _) (Nat.le_refl _) dX9_command_181
                          · replace hw := hw.1 hc
                            refine g_aload_n K 2 dX9_command_165 rfl ?_
                            refine g_iload_n K 1 dX9_command_166 rfl ?_
                            refine g_iconst (v := 4) K dX9_command_167 rfl ?_
                            refine g_iadd K dX9_command_168 ?_
                            refine g_iconst (v := 4) K dX9_command_169 rfl ?_
                            refine g_callV (st' := fun u46 => [.int (bI u46.1)]) (ws' := fun u46 => [((A 0), .inr (10, [.ref (A 1), .ref (A 2), .ref (A 3), .ref (A 4), .int mhasKept, .ref (A 5), .int mpasts, .ref (A 6), .int mreports, .int mthrown, .ref (A 7), .ref (A 8), .ref (A 9), .int mordering, .int mdetail, .ref (A 10), .int mlength, .int u46.2.1, .int u46.2.2.1, .ref (A 11), .int x38, .ref (A 12)])), ((A 1), .inl (cy 0, 672, .inl mg)), ((A 2), .inl (cy 0, 672, .inl mkept)), ((A 3), .inl (cy 0, 672, .inl mspare)), ((A 4), .inl (cy 0, 672, .inl mtrial)), ((A 5), .inl (cy 0, 5376, .inl mpast)), ((A 6), .inl (cy 0, 6, .inl mreport)), ((A 7), .inl (cy 0, 5, .inl mpart)), ((A 8), .inl (cy 0, 5, .inl mcome)), ((A 9), .inl (cy 0, 60, .inl morder)), ((A 10), .inl (cy 0, 80, .inl mtext)), ((A 11), .inl (cy 0, 200, .inl u46.2.2.2)), ((A 12), .inl (cy 0, 672, .inl mahead))]) K hR [.int (x1 + 4), .int 4] [] 0 rfl rfl (c_X9_puts X.2.1 (gxD X) cy sd A mg mkept mspare mtrial mpast mreport mpart mcome morder mtext u44.2.2.2 mahead mhasKept mpasts mreports mthrown mordering mdetail mlength u45.2 u44.2.2.1 x38 (x1 + 4) 4 hw) gX9_command_X9_puts rfl yok_X9_puts rfl rfl (by decide) rfl (Nat.le_of_ble_eq_true rfl) dX9_command_170 [0, 1, 2, 3, 4, 5, 6, 7, 8, 9, 10, 11, 12] rfl (by decide) (fun _ => rfl) (fun _ => rfl) (fun _ => rfl) ⟨rfl, rfl⟩ (fun u46 hw => ?_)
                            refine g_ifb_eq (tgt := 180) K dX9_command_173 (by decide) (fun hc => ?_) (fun hc => ?_)
                            · replace hw := hw.2 hc
                              refine g_iconst (v := 0) K dX9_command_180 rfl ?_
                              exact g_zret K E Er (false, u46.2.1, u46.2.2.1, x38, u46.2.2.2) hw rfl rfl rfl (Nat.le_refl _) (Nat.le_refl _) dX9_command_181
                            · replace hw := hw.1 hc
                              refine g_iconst (v := 1) K dX9_command_176 rfl ?_
                              refine g_goto (tgt := 181) K dX9_command_177 (by decide) ?_
                              exact g_zret K E Er (true, u46.2.1, u46.2.2.1, x38, u46.2.2.2) hw rfl rfl rfl (Nat.le_refl _) (Nat.le_refl _) dX9_command_181
                  · replace hw := hw.2 hc
                    refine g_iconst (v := 0) K dX9_command_128 rfl ?_
                    exact g_zret K E Er (false, u42.2.1, u42.2.2.1, x38, u42.2.2.2) hw rfl rfl rfl (Nat.le_refl _) (Nat.le_refl _) dX9_command_129
              · replace hw := hw.1 hc
                refine g_bipush (v := 61) K dX9_command_104 rfl ?_
                refine g_goto (tgt := 111) K dX9_command_106 (by decide) ?_
                refine g_callV (st' := fun u47 => [.int (bI u47.1)]) (ws' := fun u47 => [((A 0), .inr (10, [.ref (A 1), .ref (A 2), .ref (A 3), .ref (A 4), .int mhasKept, .ref (A 5), .int mpasts, .ref (A 6), .int mreports, .int mthrown, .ref (A 7), .ref (A 8), .ref (A 9), .int mordering, .int mdetail, .ref (A 10), .int mlength, .int u47.2, .int u40.2.2.1, .ref (A 11), .int x38, .ref (A 12)])), ((A 1), .inl (cy 0, 672, .inl mg)), ((A 2), .inl (cy 0, 672, .inl mkept)), ((A 3), .inl (cy 0, 672, .inl mspare)), ((A 4), .inl (cy 0, 672, .inl mtrial)), ((A 5), .inl (cy 0, 5376, .inl mpast)), ((A 6), .inl (cy 0, 6, .inl mreport)), ((A 7), .inl (cy 0, 5, .inl mpart)), ((A 8), .inl (cy 0, 5, .inl mcome)), ((A 9), .inl (cy 0, 60, .inl morder)), ((A 10), .inl (cy 0, 80, .inl mtext)), ((A 11), .inl (cy 0, 200, .inl u40.2.2.2)), ((A 12), .inl (cy 0, 672, .inl mahead))]) K hR [.int 61] [] 0 rfl rfl (c_X9_skips X.2.1 (gxD X) cy sd A mg mkept mspare mtrial mpast mreport mpart mcome morder mtext u40.2.2.2 mahead mhasKept mpasts mreports mthrown mordering mdetail mlength u40.2.1 u40.2.2.1 x38 61 hw) gX9_command_X9_skips rfl yok_X9_skips rfl rfl (by decide) rfl (Nat.le_of_ble_eq_true rfl) dX9_command_111 [0, 1, 2, 3, 4, 5, 6, 7, 8, 9, 10, 11, 12] rfl (by decide) (fun _ => rfl) (fun _ => rfl) (fun _ => rfl) ⟨rfl, rfl⟩ (fun u47 hw => ?_)
                refine g_ifb_eq (tgt := 128) K dX9_command_114 (by decide) (fun hc => ?_) (fun hc => ?_)
                · replace hw := hw.2 hc
                  refine g_iconst (v := 0) K dX9_command_128 rfl ?_
                  exact g_zret K E Er (false, u47.2, u40.2.2.1, x38, u40.2.2.2) hw rfl rfl rfl (Nat.le_refl _) (Nat.le_refl _) dX9_command_129
                · replace hw := hw.1 hc
                  refine g_aload_n K 2 dX9_command_117 rfl ?_
                  refine g_iload_n K 1 dX9_command_118 rfl ?_
                  refine g_iconst (v := 2) K dX9_command_119 rfl ?_
                  refine g_iadd K dX9_command_120 ?_
                  refine g_iconst (v := 4) K dX9_command_121 rfl ?_
                  refine g_callV (st' := fun u48 => [.int (bI u48.1)]) (ws' := fun u48 => [((A 0), .inr (10, [.ref (A 1), .ref (A 2), .ref (A 3), .ref (A 4), .int mhasKept, .ref (A 5), .int mpasts, .ref (A 6), .int mreports, .int mthrown, .ref (A 7), .ref (A 8), .ref (A 9), .int mordering, .int mdetail, .ref (A 10), .int mlength, .int u48.2.1, .int u48.2.2.1, .ref (A 11), .int x38, .ref (A 12)])), ((A 1), .inl (cy 0, 672, .inl mg)), ((A 2), .inl (cy 0, 672, .inl mkept)), ((A 3), .inl (cy 0, 672, .inl mspare)), ((A 4), .inl (cy 0, 672, .inl mtrial)), ((A 5), .inl (cy 0, 5376, .inl mpast)), ((A 6), .inl (cy 0, 6, .inl mreport)), ((A 7), .inl (cy 0, 5, .inl mpart)), ((A 8), .inl (cy 0, 5, .inl mcome)), ((A 9), .inl (cy 0, 60, .inl morder)), ((A 10), .inl (cy 0, 80, .inl mtext)), ((A 11), .inl (cy 0, 200, .inl u48.2.2.2)), ((A 12), .inl (cy 0, 672, .inl mahead))]) K hR [.int (x1 + 2), .int 4] [] 0 rfl rfl (c_X9_puts X.2.1 (gxD X) cy sd A mg mkept mspare mtrial mpast mreport mpart mcome morder mtext u40.2.2.2 mahead mhasKept mpasts mreports mthrown mordering mdetail mlength u47.2 u40.2.2.1 x38 (x1 + 2) 4 hw) gX9_command_X9_puts rfl yok_X9_puts rfl rfl (by decide) rfl (Nat.le_of_ble_eq_true rfl) dX9_command_122 [0, 1, 2, 3, 4, 5, 6, 7, 8, 9, 10, 11, 12] rfl (by decide) (fun _ => rfl) (fun _ => rfl) (fun _ => rfl) ⟨rfl, rfl⟩ (fun u48 hw => ?_)
                  refine g_ifb_ne (tgt := 130) K dX9_command_125 (by decide) (fun hc => ?_) (fun hc => ?_)
                  · replace hw := hw.1 hc
                    refine g_iload_n K 0 dX9_command_130 rfl ?_
                    refine g_bipush (v := 102) K dX9_command_131 rfl ?_
                    refine g_icmp_eq (tgt := 176) K dX9_command_133 (by decide) (fun hc => ?_) (fun hc => ?_)
                    · replace hw := hw.1 hc
                      refine g_iconst (v := 1) K dX9_command_176 rfl ?_
                      refine g_goto (tgt := 181) K dX9_command_177 (by decide) ?_
                      exact g_zret K E Er (true, u48.2.1, u48.2.2.1, x38, u48.2.2.2) hw rfl rfl rfl (Nat.le_refl _) (Nat.le_refl _) dX9_command_181
                    · replace hw := hw.2 hc
                      refine g_aload_n K 2 dX9_command_136 rfl ?_
                      refine g_bipush (v := 42) K dX9_command_137 rfl ?_
                      refine g_callV (st' := fun u49 => [.int (bI u49.1)]) (ws' := fun u49 => [((A 0), .inr (10, [.ref (A 1), .ref (A 2), .ref (A 3), .ref (A 4), .int mhasKept, .ref (A 5), .int mpasts, .ref (A 6), .int mreports, .int mthrown, .ref (A 7), .ref (A 8), .ref (A 9), .int mordering, .int mdetail, .ref (A 10), .int mlength, .int u49.2, .int u48.2.2.1, .ref (A 11), .int x38, .ref (A 12)])), ((A 1), .inl (cy 0, 672, .inl mg)), ((A 2), .inl (cy 0, 672, .inl mkept)), ((A 3), .inl (cy 0, 672, .inl mspare)), ((A 4), .inl (cy 0, 672, .inl mtrial)), ((A 5), .inl (cy 0, 5376, .inl mpast)), ((A 6), .inl (cy 0, 6, .inl mreport)), ((A 7), .inl (cy 0, 5, .inl mpart)), ((A 8), .inl (cy 0, 5, .inl mcome)), ((A 9), .inl (cy 0, 60, .inl morder)), ((A 10), .inl (cy 0, 80, .inl mtext)), ((A 11), .inl (cy 0, 200, .inl u48.2.2.2)), ((A 12), .inl (cy 0, 672, .inl mahead))]) K hR [.int 42] [] 0 rfl rfl (c_X9_skips X.2.1 (gxD X) cy sd A mg mkept mspare mtrial mpast mreport mpart mcome morder mtext u48.2.2.2 mahead mhasKept mpasts mreports mthrown mordering mdetail mlength u48.2.1 u48.2.2.1 x38 42 hw) gX9_command_X9_skips rfl yok_X9_skips rfl rfl (by decide) rfl (Nat.le_of_ble_eq_true rfl) dX9_command_139 [0, 1, 2, 3, 4, 5, 6, 7, 8, 9, 10, 11, 12] rfl (by decide) (fun _ => rfl) (fun _ => rfl) (fun _ => rfl) ⟨rfl, rfl⟩ (fun u49 hw => ?_)
                      refine g_ifb_eq (tgt := 180) K dX9_command_142 (by decide) (fun hc => ?_) (fun hc => ?_)
                      · replace hw := hw.2 hc
                        refine g_iconst (v := 0) K dX9_command_180 rfl ?_
                        exact g_zret K E Er (false, u49.2, u48.2.2.1, x38, u48.2.2.2) hw rfl rfl rfl (Nat.le_refl _) (Nat.le_refl _) dX9_command_181
                      · replace hw := hw.1 hc
                        refine g_aload_n K 2 dX9_command_145 rfl ?_
                        refine g_iload_n K 1 dX9_command_146 rfl ?_
                        refine g_iconst (v := 3) K dX9_command_147 rfl ?_
                        refine g_iadd K dX9_command_148 ?_
                        refine g_iconst (v := 4) K dX9_command_149 rfl ?_
                        refine g_callV (st' := fun u50 => [.int (bI u50.1)]) (ws' := fun u50 => [((A 0), .inr (10, [.ref (A 1), .ref (A 2), .ref (A 3), .ref (A 4), .int mhasKept, .ref (A 5), .int mpasts, .ref (A 6), .int mreports, .int mthrown, .ref (A 7), .ref (A 8), .ref (A 9), .int mordering, .int mdetail, .ref (A 10), .int mlength, .int u50.2.1, .int u50.2.2.1, .ref (A 11), .int x38, .ref (A 12)])), ((A 1), .inl (cy 0, 672, .inl mg)), ((A 2), .inl (cy 0, 672, .inl mkept)), ((A 3), .inl (cy 0, 672, .inl mspare)), ((A 4), .inl (cy 0, 672, .inl mtrial)), ((A 5), .inl (cy 0, 5376, .inl mpast)), ((A 6), .inl (cy 0, 6, .inl mreport)), ((A 7), .inl (cy 0, 5, .inl mpart)), ((A 8), .inl (cy 0, 5, .inl mcome)), ((A 9), .inl (cy 0, 60, .inl morder)), ((A 10), .inl (cy 0, 80, .inl mtext)), ((A 11), .inl (cy 0, 200, .inl u50.2.2.2)), ((A 12), .inl (cy 0, 672, .inl mahead))]) K hR [.int (x1 + 3), .int 4] [] 0 rfl rfl (c_X9_puts X.2.1 (gxD X) cy sd A mg mkept mspare mtrial mpast mreport mpart mcome morder mtext u48.2.2.2 mahead mhasKept mpasts mreports mthrown mordering mdetail mlength u49.2 u48.2.2.1 x38 (x1 + 3) 4 hw) gX9_command_X9_puts rfl yok_X9_puts rfl rfl (by decide) rfl (Nat.le_of_ble_eq_true rfl) dX9_command_150 [0, 1, 2, 3, 4, 5, 6, 7, 8, 9, 10, 11, 12] rfl (by decide) (fun _ => rfl) (fun _ => rfl) (fun _ => rfl) ⟨rfl, rfl⟩ (fun u50 hw => ?_)
                        refine g_ifb_eq (tgt := 180) K dX9_command_153 (by decide) (fun hc => ?_) (fun hc => ?_)
                        · replace hw := hw.2 hc
                          refine g_iconst (v := 0) K dX9_command_180 rfl ?_
                          exact g_zret K E Er (false, u50.2.1, u50.2.2.1, x38, u50.2.2.2) hw rfl rfl rfl (Nat.le_refl _) (Nat.le_refl _) dX9_command_181
                        · replace hw := hw.1 hc
                          refine g_aload_n K 2 dX9_command_156 rfl ?_
                          refine g_bipush (v := 36) K dX9_command_157 rfl ?_
                          refine g_callV (st' := fun u51 => [.int (bI u51.1)]) (ws' := fun u51 => [((A 0), .inr (10, [.ref (A 1), .ref (A 2), .ref (A 3), .ref (A 4), .int mhasKept, .ref (A 5), .int mpasts, .ref (A 6), .int mreports, .int mthrown, .ref (A 7), .ref (A 8), .ref (A 9), .int mordering, .int mdetail, .ref (A 10), .int mlength, .int u51.2, .int u50.2.2.1, .ref (A 11), .int x38, .ref (A 12)])), ((A 1), .inl (cy 0, 672, .inl mg)), ((A 2), .inl (cy 0, 672, .inl mkept)), ((A 3), .inl (cy 0, 672, .inl mspare)), ((A 4), .inl (cy 0, 672, .inl mtrial)), ((A 5), .inl (cy 0, 5376, .inl mpast)), ((A 6), .inl (cy 0, 6, .inl mreport)), ((A 7), .inl (cy 0, 5, .inl mpart)), ((A 8), .inl (cy 0, 5, .inl mcome)), ((A 9), .inl (cy 0, 60, .inl morder)), ((A 10), .inl (cy 0, 80, .inl mtext)), ((A 11), .inl (cy 0, 200, .inl u50.2.2.2)), ((A 12), .inl (cy 0, 672, .inl mahead))]) K hR [.int 36] [] 0 rfl rfl (c_X9_skips X.2.1 (gxD X) cy sd A mg mkept mspare mtrial mpast mreport mpart mcome morder mtext u50.2.2.2 mahead mhasKept mpasts mreports mthrown mordering mdetail mlength u50.2.1 u50.2.2.1 x38 36 hw) gX9_command_X9_skips rfl yok_X9_skips rfl rfl (by decide) rfl (Nat.le_of_ble_eq_true rfl) dX9_command_159 [0, 1, 2, 3, 4, 5, 6, 7, 8, 9, 10, 11, 12] rfl (by decide) (fun _ => rfl) (fun _ => rfl) (fun _ => rfl) ⟨rfl, rfl⟩ (fun u51 hw => ?_)
                          refine g_ifb_eq (tgt := 180) K dX9_command_162 (by decide) (fun hc => ?_) (fun hc => ?_)
                          · replace hw := hw.2 hc
                            refine g_iconst (v := 0) K dX9_command_180 rfl ?_
                            exact g_zret K E Er (false, u51.2, u50.2.2.1, x38, u50.2.2.2) hw rfl rfl rfl (Nat.le_refl _) (Nat.le_refl _) dX9_command_181
                          · replace hw := hw.1 hc
                            refine g_aload_n K 2 dX9_command_165 rfl ?_
                            refine g_iload_n K 1 dX9_command_166 rfl ?_
                            refine g_iconst (v := 4) K dX9_command_167 rfl ?_
                            refine g_iadd K dX9_command_168 ?_
                            refine g_iconst (v := 4) K dX9_command_169 rfl ?_
                            refine g_callV (st' := fun u52 => [.int (bI u52.1)]) (ws' := fun u52 => [((A 0), .inr (10, [.ref (A 1), .ref (A 2), .ref (A 3), .ref (A 4), .int mhasKept, .ref (A 5), .int mpasts, .ref (A 6), .int mreports, .int mthrown, .ref (A 7), .ref (A 8), .ref (A 9), .int mordering, .int mdetail, .ref (A 10), .int mlength, .int u52.2.1, .int u52.2.2.1, .ref (A 11), .int x38, .ref (A 12)])), ((A 1), .inl (cy 0, 672, .inl mg)), ((A 2), .inl (cy 0, 672, .inl mkept)), ((A 3), .inl (cy 0, 672, .inl mspare)), ((A 4), .inl (cy 0, 672, .inl mtrial)), ((A 5), .inl (cy 0, 5376, .inl mpast)), ((A 6), .inl (cy 0, 6, .inl mreport)), ((A 7), .inl (cy 0, 5, .inl mpart)), ((A 8), .inl (cy 0, 5, .inl mcome)), ((A 9), .inl (cy 0, 60, .inl morder)), ((A 10), .inl (cy 0, 80, .inl mtext)), ((A 11), .inl (cy 0, 200, .inl u52.2.2.2)), ((A 12), .inl (cy 0, 672, .inl mahead))]) K hR [.int (x1 + 4), .int 4] [] 0 rfl rfl (c_X9_puts X.2.1 (gxD X) cy sd A mg mkept mspare mtrial mpast mreport mpart mcome morder mtext u50.2.2.2 mahead mhasKept mpasts mreports mthrown mordering mdetail mlength u51.2 u50.2.2.1 x38 (x1 + 4) 4 hw) gX9_command_X9_puts rfl yok_X9_puts rfl rfl (by decide) rfl (Nat.le_of_ble_eq_true rfl) dX9_command_170 [0, 1, 2, 3, 4, 5, 6, 7, 8, 9, 10, 11, 12] rfl (by decide) (fun _ => rfl) (fun _ => rfl) (fun _ => rfl) ⟨rfl, rfl⟩ (fun u52 hw => ?_)
                            refine g_ifb_eq (tgt := 180) K dX9_command_173 (by decide) (fun hc => ?_) (fun hc => ?_)
                            · replace hw := hw.2 hc
                              refine g_iconst (v := 0) K dX9_command_180 rfl ?_
                              exact g_zret K E Er (false, u52.2.1, u52.2.2.1, x38, u52.2.2.2) hw rfl rfl rfl (Nat.le_refl _) (Nat.le_refl _) dX9_command_181
                            · replace hw := hw.1 hc
                              refine g_iconst (v := 1) K dX9_command_176 rfl ?_
                              refine g_goto (tgt := 181) K dX9_command_177 (by decide) ?_
                              exact g_zret K E Er (true, u52.2.1, u52.2.2.1, x38, u52.2.2.2) hw rfl rfl rfl (Nat.le_refl _) (Nat.le_refl _) dX9_command_181
                  · replace hw := hw.2 hc
                    refine g_iconst (v := 0) K dX9_command_128 rfl ?_
                    exact g_zret K E Er (false, u48.2.1, u48.2.2.1, x38, u48.2.2.2) hw rfl rfl rfl (Nat.le_refl _) (Nat.le_refl _) dX9_command_129
          · replace hw := hw.1 hc
            refine g_aload_n K 2 dX9_command_77 rfl ?_
            refine g_iload_n K 1 dX9_command_78 rfl ?_
            refine g_iconst (v := 1) K dX9_command_79 rfl ?_
            refine g_iadd K dX9_command_80 ?_
            refine g_iconst (v := 4) K dX9_command_81 rfl ?_
            refine g_callV (st' := fun u53 => [.int (bI u53.1)]) (ws' := fun u53 => [((A 0), .inr (10, [.ref (A 1), .ref (A 2), .ref (A 3), .ref (A 4), .int mhasKept, .ref (A 5), .int mpasts, .ref (A 6), .int mreports, .int mthrown, .ref (A 7), .ref (A 8), .ref (A 9), .int mordering, .int mdetail, .ref (A 10), .int mlength, .int u53.2.1, .int u53.2.2.1, .ref (A 11), .int x38, .ref (A 12)])), ((A 1), .inl (cy 0, 672, .inl mg)), ((A 2), .inl (cy 0, 672, .inl mkept)), ((A 3), .inl (cy 0, 672, .inl mspare)), ((A 4), .inl (cy 0, 672, .inl mtrial)), ((A 5), .inl (cy 0, 5376, .inl mpast)), ((A 6), .inl (cy 0, 6, .inl mreport)), ((A 7), .inl (cy 0, 5, .inl mpart)), ((A 8), .inl (cy 0, 5, .inl mcome)), ((A 9), .inl (cy 0, 60, .inl morder)), ((A 10), .inl (cy 0, 80, .inl mtext)), ((A 11), .inl (cy 0, 200, .inl u53.2.2.2)), ((A 12), .inl (cy 0, 672, .inl mahead))]) K hR [.int (x1 + 1), .int 4] [] 0 rfl rfl (c_X9_puts X.2.1 (gxD X) cy sd A mg mkept mspare mtrial mpast mreport mpart mcome morder mtext (upd mtold (x1).toNatClampNeg u2) mahead mhasKept mpasts mreports mthrown mordering mdetail mlength x37 mnumber x38 (x1 + 1) 4 hw) gX9_command_X9_puts rfl yok_X9_puts rfl rfl (by decide) rfl (Nat.le_of_ble_eq_true rfl) dX9_command_82 [0, 1, 2, 3, 4, 5, 6, 7, 8, 9, 10, 11, 12] rfl (by decide) (fun _ => rfl) (fun _ => rfl) (fun _ => rfl) ⟨rfl, rfl⟩ (fun u53 hw => ?_)
            exact g_zret K E Er (u53.1, u53.2.1, u53.2.2.1, x38, u53.2.2.2) hw rfl (bI_narrow _) rfl (Nat.le_refl _) (Nat.le_refl _) dX9_command_85
      · replace hw := hw.2 hc
        refine g_iload_n K 0 dX9_command_30 rfl ?_
        refine g_bipush (v := 115) K dX9_command_31 rfl ?_
        refine g_icmp_eq (tgt := 38) K dX9_command_33 (by decide) (fun hc => ?_) (fun hc => ?_)
        · replace hw := hw.1 hc
          refine g_aload_n K 2 dX9_command_38 rfl ?_
          refine g_get K (C := RX9) (T := TX9) (N := 22) 0 19 in_X9_command_X9 (by decide +kernel) rfl rfl (by decide) rfl dX9_command_39 ?_
          refine g_iload_n K 1 dX9_command_42 rfl ?_
          refine g_iload_n K 0 dX9_command_43 rfl ?_
          refine g_iast (ws' := [((A 0), .inr (10, [.ref (A 1), .ref (A 2), .ref (A 3), .ref (A 4), .int mhasKept, .ref (A 5), .int mpasts, .ref (A 6), .int mreports, .int mthrown, .ref (A 7), .ref (A 8), .ref (A 9), .int mordering, .int mdetail, .ref (A 10), .int mlength, .int mspot, .int mnumber, .ref (A 11), .int mtolds, .ref (A 12)])), ((A 1), .inl (cy 0, 672, .inl mg)), ((A 2), .inl (cy 0, 672, .inl mkept)), ((A 3), .inl (cy 0, 672, .inl mspare)), ((A 4), .inl (cy 0, 672, .inl mtrial)), ((A 5), .inl (cy 0, 5376, .inl mpast)), ((A 6), .inl (cy 0, 6, .inl mreport)), ((A 7), .inl (cy 0, 5, .inl mpart)), ((A 8), .inl (cy 0, 5, .inl mcome)), ((A 9), .inl (cy 0, 60, .inl morder)), ((A 10), .inl (cy 0, 80, .inl mtext)), ((A 11), .inl (cy 0, 200, .inl (upd mtold (x1).toNatClampNeg u2))), ((A 12), .inl (cy 0, 672, .inl mahead))]) K 11 0 rfl rfl hw.1 rfl dX9_command_44 ?_
          replace hw := hw.2
          refine g_aload_n K 2 dX9_command_45 rfl ?_
          refine g_dup K dX9_command_46 rfl ?_
          refine g_get K (C := RX9) (T := TX9) (N := 22) 0 17 in_X9_command_X9 (by decide +kernel) rfl rfl (by decide) rfl dX9_command_47 ?_
          refine g_iconst (v := 1) K dX9_command_50 rfl ?_
          refine g_iadd K dX9_command_51 ?_
          refine g_topi (fun x54 ex54 => ?_)
          replace hw := hw x54 ex54
          refine g_put (ty := .int) (ws' := [((A 0), .inr (10, [.ref (A 1), .ref (A 2), .ref (A 3), .ref (A 4), .int mhasKept, .ref (A 5), .int mpasts, .ref (A 6), .int mreports, .int mthrown, .ref (A 7), .ref (A 8), .ref (A 9), .int mordering, .int mdetail, .ref (A 10), .int mlength, .int x54, .int mnumber, .ref (A 11), .int mtolds, .ref (A 12)])), ((A 1), .inl (cy 0, 672, .inl mg)), ((A 2), .inl (cy 0, 672, .inl mkept)), ((A 3), .inl (cy 0, 672, .inl mspare)), ((A 4), .inl (cy 0, 672, .inl mtrial)), ((A 5), .inl (cy 0, 5376, .inl mpast)), ((A 6), .inl (cy 0, 6, .inl mreport)), ((A 7), .inl (cy 0, 5, .inl mpart)), ((A 8), .inl (cy 0, 5, .inl mcome)), ((A 9), .inl (cy 0, 60, .inl morder)), ((A 10), .inl (cy 0, 80, .inl mtext)), ((A 11), .inl (cy 0, 200, .inl (upd mtold (x1).toNatClampNeg u2))), ((A 12), .inl (cy 0, 672, .inl mahead))]) K (C := RX9) (T := TX9) (N := 22) 0 17 in_X9_command_X9 tyX9 tyX9_ok nmX9 (by decide +kernel) rfl rfl (by decide) rfl (by decide +kernel) rfl rfl (Nat.le_of_ble_eq_true rfl) rfl dX9_command_52 ?_
          refine g_aload_n K 2 dX9_command_55 rfl ?_
          refine g_dup K dX9_command_56 rfl ?_
          refine g_get K (C := RX9) (T := TX9) (N := 22) 0 20 in_X9_command_X9 (by decide +kernel) rfl rfl (by decide) rfl dX9_command_57 ?_
          refine g_iconst (v := 1) K dX9_command_60 rfl ?_
          refine g_iadd K dX9_command_61 ?_
          refine g_topi (fun x55 ex55 => ?_)
          replace hw := hw x55 ex55
          refine g_put (ty := .int) (ws' := [((A 0), .inr (10, [.ref (A 1), .ref (A 2), .ref (A 3), .ref (A 4), .int mhasKept, .ref (A 5), .int mpasts, .ref (A 6), .int mreports, .int mthrown, .ref (A 7), .ref (A 8), .ref (A 9), .int mordering, .int mdetail, .ref (A 10), .int mlength, .int x54, .int mnumber, .ref (A 11), .int x55, .ref (A 12)])), ((A 1), .inl (cy 0, 672, .inl mg)), ((A 2), .inl (cy 0, 672, .inl mkept)), ((A 3), .inl (cy 0, 672, .inl mspare)), ((A 4), .inl (cy 0, 672, .inl mtrial)), ((A 5), .inl (cy 0, 5376, .inl mpast)), ((A 6), .inl (cy 0, 6, .inl mreport)), ((A 7), .inl (cy 0, 5, .inl mpart)), ((A 8), .inl (cy 0, 5, .inl mcome)), ((A 9), .inl (cy 0, 60, .inl morder)), ((A 10), .inl (cy 0, 80, .inl mtext)), ((A 11), .inl (cy 0, 200, .inl (upd mtold (x1).toNatClampNeg u2))), ((A 12), .inl (cy 0, 672, .inl mahead))]) K (C := RX9) (T := TX9) (N := 22) 0 20 in_X9_command_X9 tyX9 tyX9_ok nmX9 (by decide +kernel) rfl rfl (by decide) rfl (by decide +kernel) rfl rfl (Nat.le_of_ble_eq_true rfl) rfl dX9_command_62 ?_
          refine g_iload_n K 0 dX9_command_65 rfl ?_
          refine g_bipush (v := 114) K dX9_command_66 rfl ?_
          refine g_icmp_eq (tgt := 77) K dX9_command_68 (by decide) (fun hc => ?_) (fun hc => ?_)
          · replace hw := hw.1 hc
            refine g_aload_n K 2 dX9_command_77 rfl ?_
            refine g_iload_n K 1 dX9_command_78 rfl ?_
            refine g_iconst (v := 1) K dX9_command_79 rfl ?_
            refine g_iadd K dX9_command_80 ?_
            refine g_iconst (v := 4) K dX9_command_81 rfl ?_
            refine g_callV (st' := fun u56 => [.int (bI u56.1)]) (ws' := fun u56 => [((A 0), .inr (10, [.ref (A 1), .ref (A 2), .ref (A 3), .ref (A 4), .int mhasKept, .ref (A 5), .int mpasts, .ref (A 6), .int mreports, .int mthrown, .ref (A 7), .ref (A 8), .ref (A 9), .int mordering, .int mdetail, .ref (A 10), .int mlength, .int u56.2.1, .int u56.2.2.1, .ref (A 11), .int x55, .ref (A 12)])), ((A 1), .inl (cy 0, 672, .inl mg)), ((A 2), .inl (cy 0, 672, .inl mkept)), ((A 3), .inl (cy 0, 672, .inl mspare)), ((A 4), .inl (cy 0, 672, .inl mtrial)), ((A 5), .inl (cy 0, 5376, .inl mpast)), ((A 6), .inl (cy 0, 6, .inl mreport)), ((A 7), .inl (cy 0, 5, .inl mpart)), ((A 8), .inl (cy 0, 5, .inl mcome)), ((A 9), .inl (cy 0, 60, .inl morder)), ((A 10), .inl (cy 0, 80, .inl mtext)), ((A 11), .inl (cy 0, 200, .inl u56.2.2.2)), ((A 12), .inl (cy 0, 672, .inl mahead))]) K hR [.int (x1 + 1), .int 4] [] 0 rfl rfl (c_X9_puts X.2.1 (gxD X) cy sd A mg mkept mspare mtrial mpast mreport mpart mcome morder mtext (upd mtold (x1).toNatClampNeg u2) mahead mhasKept mpasts mreports mthrown mordering mdetail mlength x54 mnumber x55 (x1 + 1) 4 hw) gX9_command_X9_puts rfl yok_X9_puts rfl rfl (by decide) rfl (Nat.le_of_ble_eq_true rfl) dX9_command_82 [0, 1, 2, 3, 4, 5, 6, 7, 8, 9, 10, 11, 12] rfl (by decide) (fun _ => rfl) (fun _ => rfl) (fun _ => rfl) ⟨rfl, rfl⟩ (fun u56 hw => ?_)
            exact g_zret K E Er (u56.1, u56.2.1, u56.2.2.1, x55, u56.2.2.2) hw rfl (bI_narrow _) rfl (Nat.le_refl _) (Nat.le_refl _) dX9_command_85
          · replace hw := hw.2 hc
            refine g_iload_n K 0 dX9_command_71 rfl ?_
            refine g_bipush (v := 115) K dX9_command_72 rfl ?_
            refine g_icmp_ne (tgt := 86) K dX9_command_74 (by decide) (fun hc => ?_) (fun hc => ?_)
            · replace hw := hw.2 hc
              refine g_aload_n K 2 dX9_command_86 rfl ?_
              refine g_iload_n K 1 dX9_command_87 rfl ?_
              refine g_iconst (v := 1) K dX9_command_88 rfl ?_
              refine g_iadd K dX9_command_89 ?_
              refine g_iconst (v := 1) K dX9_command_90 rfl ?_
              refine g_callV (st' := fun u57 => [.int (bI u57.1)]) (ws' := fun u57 => [((A 0), .inr (10, [.ref (A 1), .ref (A 2), .ref (A 3), .ref (A 4), .int mhasKept, .ref (A 5), .int mpasts, .ref (A 6), .int mreports, .int mthrown, .ref (A 7), .ref (A 8), .ref (A 9), .int mordering, .int mdetail, .ref (A 10), .int mlength, .int u57.2.1, .int u57.2.2.1, .ref (A 11), .int x55, .ref (A 12)])), ((A 1), .inl (cy 0, 672, .inl mg)), ((A 2), .inl (cy 0, 672, .inl mkept)), ((A 3), .inl (cy 0, 672, .inl mspare)), ((A 4), .inl (cy 0, 672, .inl mtrial)), ((A 5), .inl (cy 0, 5376, .inl mpast)), ((A 6), .inl (cy 0, 6, .inl mreport)), ((A 7), .inl (cy 0, 5, .inl mpart)), ((A 8), .inl (cy 0, 5, .inl mcome)), ((A 9), .inl (cy 0, 60, .inl morder)), ((A 10), .inl (cy 0, 80, .inl mtext)), ((A 11), .inl (cy 0, 200, .inl u57.2.2.2)), ((A 12), .inl (cy 0, 672, .inl mahead))]) K hR [.int (x1 + 1), .int 1] [] 0 rfl rfl (c_X9_puts X.2.1 (gxD X) cy sd A mg mkept mspare mtrial mpast mreport mpart mcome morder mtext (upd mtold (x1).toNatClampNeg u2) mahead mhasKept mpasts mreports mthrown mordering mdetail mlength x54 mnumber x55 (x1 + 1) 1 hw) gX9_command_X9_puts rfl yok_X9_puts rfl rfl (by decide) rfl (Nat.le_of_ble_eq_true rfl) dX9_command_91 [0, 1, 2, 3, 4, 5, 6, 7, 8, 9, 10, 11, 12] rfl (by decide) (fun _ => rfl) (fun _ => rfl) (fun _ => rfl) ⟨rfl, rfl⟩ (fun u57 hw => ?_)
              refine g_ifb_eq (tgt := 128) K dX9_command_94 (by decide) (fun hc => ?_) (fun hc => ?_)
              · replace hw := hw.2 hc
                refine g_iconst (v := 0) K dX9_command_128 rfl ?_
                exact g_zret K E Er (false, u57.2.1, u57.2.2.1, x55, u57.2.2.2) hw rfl rfl rfl (Nat.le_refl _) (Nat.le_refl _) dX9_command_129
              · replace hw := hw.1 hc
                refine g_aload_n K 2 dX9_command_97 rfl ?_
                refine g_iload_n K 0 dX9_command_98 rfl ?_
                refine g_bipush (v := 102) K dX9_command_99 rfl ?_
                refine g_icmp_ne (tgt := 109) K dX9_command_101 (by decide) (fun hc => ?_) (fun hc => ?_)
                · replace hw := hw.2 hc
                  refine g_bipush (v := 64) K dX9_command_109 rfl ?_
                  refine g_callV (st' := fun u58 => [.int (bI u58.1)]) (ws' := fun u58 => [((A 0), .inr (10, [.ref (A 1), .ref (A 2), .ref (A 3), .ref (A 4), .int mhasKept, .ref (A 5), .int mpasts, .ref (A 6), .int mreports, .int mthrown, .ref (A 7), .ref (A 8), .ref (A 9), .int mordering, .int mdetail, .ref (A 10), .int mlength, .int u58.2, .int u57.2.2.1, .ref (A 11), .int x55, .ref (A 12)])), ((A 1), .inl (cy 0, 672, .inl mg)), ((A 2), .inl (cy 0, 672, .inl mkept)), ((A 3), .inl (cy 0, 672, .inl mspare)), ((A 4), .inl (cy 0, 672, .inl mtrial)), ((A 5), .inl (cy 0, 5376, .inl mpast)), ((A 6), .inl (cy 0, 6, .inl mreport)), ((A 7), .inl (cy 0, 5, .inl mpart)), ((A 8), .inl (cy 0, 5, .inl mcome)), ((A 9), .inl (cy 0, 60, .inl morder)), ((A 10), .inl (cy 0, 80, .inl mtext)), ((A 11), .inl (cy 0, 200, .inl u57.2.2.2)), ((A 12), .inl (cy 0, 672, .inl mahead))]) K hR [.int 64] [] 0 rfl rfl (c_X9_skips X.2.1 (gxD X) cy sd A mg mkept mspare mtrial mpast mreport mpart mcome morder mtext u57.2.2.2 mahead mhasKept mpasts mreports mthrown mordering mdetail mlength u57.2.1 u57.2.2.1 x55 64 hw) gX9_command_X9_skips rfl yok_X9_skips rfl rfl (by decide) rfl (Nat.le_of_ble_eq_true rfl) dX9_command_111 [0, 1, 2, 3, 4, 5, 6, 7, 8, 9, 10, 11, 12] rfl (by decide) (fun _ => rfl) (fun _ => rfl) (fun _ => rfl) ⟨rfl, rfl⟩ (fun u58 hw => ?_)
                  refine g_ifb_eq (tgt := 128) K dX9_command_114 (by decide) (fun hc => ?_) (fun hc => ?_)
                  · replace hw := hw.2 hc
                    refine g_iconst (v := 0) K dX9_command_128 rfl ?_
                    exact g_zret K E Er (false, u58.2, u57.2.2.1, x55, u57.2.2.2) hw rfl rfl rfl (Nat.le_refl _) (Nat.le_refl _) dX9_command_129
                  · replace hw := hw.1 hc
                    refine g_aload_n K 2 dX9_command_117 rfl ?_
                    refine g_iload_n K 1 dX9_command_118 rfl ?_
                    refine g_iconst (v := 2) K dX9_command_119 rfl ?_
                    refine g_iadd K dX9_command_120 ?_
                    refine g_iconst (v := 4) K dX9_command_121 rfl ?_
                    refine g_callV (st' := fun u59 => [.int (bI u59.1)]) (ws' := fun u59 => [((A 0), .inr (10, [.ref (A 1), .ref (A 2), .ref (A 3), .ref (A 4), .int mhasKept, .ref (A 5), .int mpasts, .ref (A 6), .int mreports, .int mthrown, .ref (A 7), .ref (A 8), .ref (A 9), .int mordering, .int mdetail, .ref (A 10), .int mlength, .int u59.2.1, .int u59.2.2.1, .ref (A 11), .int x55, .ref (A 12)])), ((A 1), .inl (cy 0, 672, .inl mg)), ((A 2), .inl (cy 0, 672, .inl mkept)), ((A 3), .inl (cy 0, 672, .inl mspare)), ((A 4), .inl (cy 0, 672, .inl mtrial)), ((A 5), .inl (cy 0, 5376, .inl mpast)), ((A 6), .inl (cy 0, 6, .inl mreport)), ((A 7), .inl (cy 0, 5, .inl mpart)), ((A 8), .inl (cy 0, 5, .inl mcome)), ((A 9), .inl (cy 0, 60, .inl morder)), ((A 10), .inl (cy 0, 80, .inl mtext)), ((A 11), .inl (cy 0, 200, .inl u59.2.2.2)), ((A 12), .inl (cy 0, 672, .inl mahead))]) K hR [.int (x1 + 2), .int 4] [] 0 rfl rfl (c_X9_puts X.2.1 (gxD X) cy sd A mg mkept mspare mtrial mpast mreport mpart mcome morder mtext u57.2.2.2 mahead mhasKept mpasts mreports mthrown mordering mdetail mlength u58.2 u57.2.2.1 x55 (x1 + 2) 4 hw) gX9_command_X9_puts rfl yok_X9_puts rfl rfl (by decide) rfl (Nat.le_of_ble_eq_true rfl) dX9_command_122 [0, 1, 2, 3, 4, 5, 6, 7, 8, 9, 10, 11, 12] rfl (by decide) (fun _ => rfl) (fun _ => rfl) (fun _ => rfl) ⟨rfl, rfl⟩ (fun u59 hw => ?_)
                    refine g_ifb_ne (tgt := 130) K dX9_command_125 (by decide) (fun hc => ?_) (fun hc => ?_)
                    · replace hw := hw.1 hc
                      refine g_iload_n K 0 dX9_command_130 rfl ?_
                      refine g_bipush (v := 102) K dX9_command_131 rfl ?_
                      refine g_icmp_eq (tgt := 176) K dX9_command_133 (by decide) (fun hc => ?_) (fun hc => ?_)
                      · replace hw := hw.1 hc
                        refine g_iconst (v := 1) K dX9_command_176 rfl ?_
                        refine g_goto (tgt := 181) K dX9_command_177 (by decide) ?_
                        exact g_zret K E Er (true, u59.2.1, u59.2.2.1, x55, u59.2.2.2) hw rfl rfl rfl (Nat.le_refl _) (Nat.le_refl _) dX9_command_181
                      · replace hw := hw.2 hc
                        refine g_aload_n K 2 dX9_command_136 rfl ?_
                        refine g_bipush (v := 42) K dX9_command_137 rfl ?_
                        refine g_callV (st' := fun u60 => [.int (bI u60.1)]) (ws' := fun u60 => [((A 0), .inr (10, [.ref (A 1), .ref (A 2), .ref (A 3), .ref (A 4), .int mhasKept, .ref (A 5), .int mpasts, .ref (A 6), .int mreports, .int mthrown, .ref (A 7), .ref (A 8), .ref (A 9), .int mordering, .int mdetail, .ref (A 10), .int mlength, .int u60.2, .int u59.2.2.1, .ref (A 11), .int x55, .ref (A 12)])), ((A 1), .inl (cy 0, 672, .inl mg)), ((A 2), .inl (cy 0, 672, .inl mkept)), ((A 3), .inl (cy 0, 672, .inl mspare)), ((A 4), .inl (cy 0, 672, .inl mtrial)), ((A 5), .inl (cy 0, 5376, .inl mpast)), ((A 6), .inl (cy 0, 6, .inl mreport)), ((A 7), .inl (cy 0, 5, .inl mpart)), ((A 8), .inl (cy 0, 5, .inl mcome)), ((A 9), .inl (cy 0, 60, .inl morder)), ((A 10), .inl (cy 0, 80, .inl mtext)), ((A 11), .inl (cy 0, 200, .inl u59.2.2.2)), ((A 12), .inl (cy 0, 672, .inl mahead))]) K hR [.int 42] [] 0 rfl rfl (c_X9_skips X.2.1 (gxD X) cy sd A mg mkept mspare mtrial mpast mreport mpart mcome morder mtext u59.2.2.2 mahead mhasKept mpasts mreports mthrown mordering mdetail mlength u59.2.1 u59.2.2.1 x55 42 hw) gX9_command_X9_skips rfl yok_X9_skips rfl rfl (by decide) rfl (Nat.le_of_ble_eq_true rfl) dX9_command_139 [0, 1, 2, 3, 4, 5, 6, 7, 8, 9, 10, 11, 12] rfl (by decide) (fun _ => rfl) (fun _ => rfl) (fun _ => rfl) ⟨rfl, rfl⟩ (fun u60 hw => ?_)
                        refine g_ifb_eq (tgt := 180) K dX9_command_142 (by decide) (fun hc => ?_) (fun hc => ?_)
                        · replace hw := hw.2 hc
                          refine g_iconst (v := 0) K dX9_command_180 rfl ?_
                          exact g_zret K E Er (false, u60.2, u59.2.2.1, x55, u59.2.2.2) hw rfl rfl rfl (Nat.le_refl _) (Nat.le_refl _) dX9_command_181
                        · replace hw := hw.1 hc
                          refine g_aload_n K 2 dX9_command_145 rfl ?_
                          refine g_iload_n K 1 dX9_command_146 rfl ?_
                          refine g_iconst (v := 3) K dX9_command_147 rfl ?_
                          refine g_iadd K dX9_command_148 ?_
                          refine g_iconst (v := 4) K dX9_command_149 rfl ?_
                          refine g_callV (st' := fun u61 => [.int (bI u61.1)]) (ws' := fun u61 => [((A 0), .inr (10, [.ref (A 1), .ref (A 2), .ref (A 3), .ref (A 4), .int mhasKept, .ref (A 5), .int mpasts, .ref (A 6), .int mreports, .int mthrown, .ref (A 7), .ref (A 8), .ref (A 9), .int mordering, .int mdetail, .ref (A 10), .int mlength, .int u61.2.1, .int u61.2.2.1, .ref (A 11), .int x55, .ref (A 12)])), ((A 1), .inl (cy 0, 672, .inl mg)), ((A 2), .inl (cy 0, 672, .inl mkept)), ((A 3), .inl (cy 0, 672, .inl mspare)), ((A 4), .inl (cy 0, 672, .inl mtrial)), ((A 5), .inl (cy 0, 5376, .inl mpast)), ((A 6), .inl (cy 0, 6, .inl mreport)), ((A 7), .inl (cy 0, 5, .inl mpart)), ((A 8), .inl (cy 0, 5, .inl mcome)), ((A 9), .inl (cy 0, 60, .inl morder)), ((A 10), .inl (cy 0, 80, .inl mtext)), ((A 11), .inl (cy 0, 200, .inl u61.2.2.2)), ((A 12), .inl (cy 0, 672, .inl mahead))]) K hR [.int (x1 + 3), .int 4] [] 0 rfl rfl (c_X9_puts X.2.1 (gxD X) cy sd A mg mkept mspare mtrial mpast mreport mpart mcome morder mtext u59.2.2.2 mahead mhasKept mpasts mreports mthrown mordering mdetail mlength u60.2 u59.2.2.1 x55 (x1 + 3) 4 hw) gX9_command_X9_puts rfl yok_X9_puts rfl rfl (by decide) rfl (Nat.le_of_ble_eq_true rfl) dX9_command_150 [0, 1, 2, 3, 4, 5, 6, 7, 8, 9, 10, 11, 12] rfl (by decide) (fun _ => rfl) (fun _ => rfl) (fun _ => rfl) ⟨rfl, rfl⟩ (fun u61 hw => ?_)
                          refine g_ifb_eq (tgt := 180) K dX9_command_153 (by decide) (fun hc => ?_) (fun hc => ?_)
                          · replace hw := hw.2 hc
                            refine g_iconst (v := 0) K dX9_command_180 rfl ?_
                            exact g_zret K E Er (false, u61.2.1, u61.2.2.1, x55, u61.2.2.2) hw rfl rfl rfl (Nat.le_refl _) (Nat.le_refl _) dX9_command_181
                          · replace hw := hw.1 hc
                            refine g_aload_n K 2 dX9_command_156 rfl ?_
                            refine g_bipush (v := 36) K dX9_command_157 rfl ?_
                            refine g_callV (st' := fun u62 => [.int (bI u62.1)]) (ws' := fun u62 => [((A 0), .inr (10, [.ref (A 1), .ref (A 2), .ref (A 3), .ref (A 4), .int mhasKept, .ref (A 5), .int mpasts, .ref (A 6), .int mreports, .int mthrown, .ref (A 7), .ref (A 8), .ref (A 9), .int mordering, .int mdetail, .ref (A 10), .int mlength, .int u62.2, .int u61.2.2.1, .ref (A 11), .int x55, .ref (A 12)])), ((A 1), .inl (cy 0, 672, .inl mg)), ((A 2), .inl (cy 0, 672, .inl mkept)), ((A 3), .inl (cy 0, 672, .inl mspare)), ((A 4), .inl (cy 0, 672, .inl mtrial)), ((A 5), .inl (cy 0, 5376, .inl mpast)), ((A 6), .inl (cy 0, 6, .inl mreport)), ((A 7), .inl (cy 0, 5, .inl mpart)), ((A 8), .inl (cy 0, 5, .inl mcome)), ((A 9), .inl (cy 0, 60, .inl morder)), ((A 10), .inl (cy 0, 80, .inl mtext)), ((A 11), .inl (cy 0, 200, .inl u61.2.2.2)), ((A 12), .inl (cy 0, 672, .inl mahead))]) K hR [.int 36] [] 0 rfl rfl (c_X9_skips X.2.1 (gxD X) cy sd A mg mkept mspare mtrial mpast mreport mpart mcome morder mtext u61.2.2.2 mahead mhasKept mpasts mreports mthrown mordering mdetail mlength u61.2.1 u61.2.2.1 x55 36 hw) gX9_command_X9_skips rfl yok_X9_skips rfl rfl (by decide) rfl (Nat.le_of_ble_eq_true rfl) dX9_command_159 [0, 1, 2, 3, 4, 5, 6, 7, 8, 9, 10, 11, 12] rfl (by decide) (fun _ => rfl) (fun _ => rfl) (fun _ => rfl) ⟨rfl, rfl⟩ (fun u62 hw => ?_)
                            refine g_ifb_eq (tgt := 180) K dX9_command_162 (by decide) (fun hc => ?_) (fun hc => ?_)
                            · replace hw := hw.2 hc
                              refine g_iconst (v := 0) K dX9_command_180 rfl ?_
                              exact g_zret K E Er (false, u62.2, u61.2.2.1, x55, u61.2.2.2) hw rfl rfl rfl (Nat.le_refl _) (Nat.le_refl _) dX9_command_181
                            · replace hw := hw.1 hc
                              refine g_aload_n K 2 dX9_command_165 rfl ?_
                              refine g_iload_n K 1 dX9_command_166 rfl ?_
                              refine g_iconst (v := 4) K dX9_command_167 rfl ?_
                              refine g_iadd K dX9_command_168 ?_
                              refine g_iconst (v := 4) K dX9_command_169 rfl ?_
                              refine g_callV (st' := fun u63 => [.int (bI u63.1)]) (ws' := fun u63 => [((A 0), .inr (10, [.ref (A 1), .ref (A 2), .ref (A 3), .ref (A 4), .int mhasKept, .ref (A 5), .int mpasts, .ref (A 6), .int mreports, .int mthrown, .ref (A 7), .ref (A 8), .ref (A 9), .int mordering, .int mdetail, .ref (A 10), .int mlength, .int u63.2.1, .int u63.2.2.1, .ref (A 11), .int x55, .ref (A 12)])), ((A 1), .inl (cy 0, 672, .inl mg)), ((A 2), .inl (cy 0, 672, .inl mkept)), ((A 3), .inl (cy 0, 672, .inl mspare)), ((A 4), .inl (cy 0, 672, .inl mtrial)), ((A 5), .inl (cy 0, 5376, .inl mpast)), ((A 6), .inl (cy 0, 6, .inl mreport)), ((A 7), .inl (cy 0, 5, .inl mpart)), ((A 8), .inl (cy 0, 5, .inl mcome)), ((A 9), .inl (cy 0, 60, .inl morder)), ((A 10), .inl (cy 0, 80, .inl mtext)), ((A 11), .inl (cy 0, 200, .inl u63.2.2.2)), ((A 12), .inl (cy 0, 672, .inl mahead))]) K hR [.int (x1 + 4), .int 4] [] 0 rfl rfl (c_X9_puts X.2.1 (gxD X) cy sd A mg mkept mspare mtrial mpast mreport mpart mcome morder mtext u61.2.2.2 mahead mhasKept mpasts mreports mthrown mordering mdetail mlength u62.2 u61.2.2.1 x55 (x1 + 4) 4 hw) gX9_command_X9_puts rfl yok_X9_puts rfl rfl (by decide) rfl (Nat.le_of_ble_eq_true rfl) dX9_command_170 [0, 1, 2, 3, 4, 5, 6, 7, 8, 9, 10, 11, 12] rfl (by decide) (fun _ => rfl) (fun _ => rfl) (fun _ => rfl) ⟨rfl, rfl⟩ (fun u63 hw => ?_)
                              refine g_ifb_eq (tgt := 180) K dX9_command_173 (by decide) (fun hc => ?_) (fun hc => ?_)
                              · replace hw := hw.2 hc
                                refine g_iconst (v := 0) K dX9_command_180 rfl ?_
                                exact g_zret K E Er (false, u63.2.1, u63.2.2.1, x55, u63.2.2.2) hw rfl rfl rfl (Nat.le_refl _) (Nat.le_refl _) dX9_command_181
                              · replace hw := hw.1 hc
                                refine g_iconst (v := 1) K dX9_command_176 rfl ?_
                                refine g_goto (tgt := 181) K dX9_command_177 (by decide) ?_
                                exact g_zret K E Er (true, u63.2.1, u63.2.2.1, x55, u63.2.2.2) hw rfl rfl rfl (Nat.le_refl _) (Nat.le_refl _) dX9_command_181
                    · replace hw := hw.2 hc
                      refine g_iconst (v := 0) K dX9_command_128 rfl ?_
                      exact g_zret K E Er (false, u59.2.1, u59.2.2.1, x55, u59.2.2.2) hw rfl rfl rfl (Nat.le_refl _) (Nat.le_refl _) dX9_command_129
                · replace hw := hw.1 hc
                  refine g_bipush (v := 61) K dX9_command_104 rfl ?_
                  refine g_goto (tgt := 111) K dX9_command_106 (by decide) ?_
                  refine g_callV (st' := fun u64 => [.int (bI u64.1)]) (ws' := fun u64 => [((A 0), .inr (10, [.ref (A 1), .ref (A 2), .ref (A 3), .ref (A 4), .int mhasKept, .ref (A 5), .int mpasts, .ref (A 6), .int mreports, .int mthrown, .ref (A 7), .ref (A 8), .ref (A 9), .int mordering, .int mdetail, .ref (A 10), .int mlength, .int u64.2, .int u57.2.2.1, .ref (A 11), .int x55, .ref (A 12)])), ((A 1), .inl (cy 0, 672, .inl mg)), ((A 2), .inl (cy 0, 672, .inl mkept)), ((A 3), .inl (cy 0, 672, .inl mspare)), ((A 4), .inl (cy 0, 672, .inl mtrial)), ((A 5), .inl (cy 0, 5376, .inl mpast)), ((A 6), .inl (cy 0, 6, .inl mreport)), ((A 7), .inl (cy 0, 5, .inl mpart)), ((A 8), .inl (cy 0, 5, .inl mcome)), ((A 9), .inl (cy 0, 60, .inl morder)), ((A 10), .inl (cy 0, 80, .inl mtext)), ((A 11), .inl (cy 0, 200, .inl u57.2.2.2)), ((A 12), .inl (cy 0, 672, .inl mahead))]) K hR [.int 61] [] 0 rfl rfl (c_X9_skips X.2.1 (gxD X) cy sd A mg mkept mspare mtrial mpast mreport mpart mcome morder mtext u57.2.2.2 mahead mhasKept mpasts mreports mthrown mordering mdetail mlength u57.2.1 u57.2.2.1 x55 61 hw) gX9_command_X9_skips rfl yok_X9_skips rfl rfl (by decide) rfl (Nat.le_of_ble_eq_true rfl) dX9_command_111 [0, 1, 2, 3, 4, 5, 6, 7, 8, 9, 10, 11, 12] rfl (by decide) (fun _ => rfl) (fun _ => rfl) (fun _ => rfl) ⟨rfl, rfl⟩ (fun u64 hw => ?_)
                  refine g_ifb_eq (tgt := 128) K dX9_command_114 (by decide) (fun hc => ?_) (fun hc => ?_)
                  · replace hw := hw.2 hc
                    refine g_iconst (v := 0) K dX9_command_128 rfl ?_
                    exact g_zret K E Er (false, u64.2, u57.2.2.1, x55, u57.2.2.2) hw rfl rfl rfl (Nat.le_refl _) (Nat.le_refl _) dX9_command_129
                  · replace hw := hw.1 hc
                    refine g_aload_n K 2 dX9_command_117 rfl ?_
                    refine g_iload_n K 1 dX9_command_118 rfl ?_
                    refine g_iconst (v := 2) K dX9_command_119 rfl ?_
                    refine g_iadd K dX9_command_120 ?_
                    refine g_iconst (v := 4) K dX9_command_121 rfl ?_
                    refine g_callV (st' := fun u65 => [.int (bI u65.1)]) (ws' := fun u65 => [((A 0), .inr (10, [.ref (A 1), .ref (A 2), .ref (A 3), .ref (A 4), .int mhasKept, .ref (A 5), .int mpasts, .ref (A 6), .int mreports, .int mthrown, .ref (A 7), .ref (A 8), .ref (A 9), .int mordering, .int mdetail, .ref (A 10), .int mlength, .int u65.2.1, .int u65.2.2.1, .ref (A 11), .int x55, .ref (A 12)])), ((A 1), .inl (cy 0, 672, .inl mg)), ((A 2), .inl (cy 0, 672, .inl mkept)), ((A 3), .inl (cy 0, 672, .inl mspare)), ((A 4), .inl (cy 0, 672, .inl mtrial)), ((A 5), .inl (cy 0, 5376, .inl mpast)), ((A 6), .inl (cy 0, 6, .inl mreport)), ((A 7), .inl (cy 0, 5, .inl mpart)), ((A 8), .inl (cy 0, 5, .inl mcome)), ((A 9), .inl (cy 0, 60, .inl morder)), ((A 10), .inl (cy 0, 80, .inl mtext)), ((A 11), .inl (cy 0, 200, .inl u65.2.2.2)), ((A 12), .inl (cy 0, 672, .inl mahead))]) K hR [.int (x1 + 2), .int 4] [] 0 rfl rfl (c_X9_puts X.2.1 (gxD X) cy sd A mg mkept mspare mtrial mpast mreport mpart mcome morder mtext u57.2.2.2 mahead mhasKept mpasts mreports mthrown mordering mdetail mlength u64.2 u57.2.2.1 x55 (x1 + 2) 4 hw) gX9_command_X9_puts rfl yok_X9_puts rfl rfl (by decide) rfl (Nat.le_of_ble_eq_true rfl) dX9_command_122 [0, 1, 2, 3, 4, 5, 6, 7, 8, 9, 10, 11, 12] rfl (by decide) (fun _ => rfl) (fun _ => rfl) (fun _ => rfl) ⟨rfl, rfl⟩ (fun u65 hw => ?_)
                    refine g_ifb_ne (tgt := 130) K dX9_command_125 (by decide) (fun hc => ?_) (fun hc => ?_)
                    · replace hw := hw.1 hc
                      refine g_iload_n K 0 dX9_command_130 rfl ?_
                      refine g_bipush (v := 102) K dX9_command_131 rfl ?_
                      refine g_icmp_eq (tgt := 176) K dX9_command_133 (by decide) (fun hc => ?_) (fun hc => ?_)
                      · replace hw := hw.1 hc
                        refine g_iconst (v := 1) K dX9_command_176 rfl ?_
                        refine g_goto (tgt := 181) K dX9_command_177 (by decide) ?_
                        exact g_zret K E Er (true, u65.2.1, u65.2.2.1, x55, u65.2.2.2) hw rfl rfl rfl (Nat.le_refl _) (Nat.le_refl _) dX9_command_181
                      · replace hw := hw.2 hc
                        refine g_aload_n K 2 dX9_command_136 rfl ?_
                        refine g_bipush (v := 42) K dX9_command_137 rfl ?_
                        refine g_callV (st' := fun u66 => [.int (bI u66.1)]) (ws' := fun u66 => [((A 0), .inr (10, [.ref (A 1), .ref (A 2), .ref (A 3), .ref (A 4), .int mhasKept, .ref (A 5), .int mpasts, .ref (A 6), .int mreports, .int mthrown, .ref (A 7), .ref (A 8), .ref (A 9), .int mordering, .int mdetail, .ref (A 10), .int mlength, .int u66.2, .int u65.2.2.1, .ref (A 11), .int x55, .ref (A 12)])), ((A 1), .inl (cy 0, 672, .inl mg)), ((A 2), .inl (cy 0, 672, .inl mkept)), ((A 3), .inl (cy 0, 672, .inl mspare)), ((A 4), .inl (cy 0, 672, .inl mtrial)), ((A 5), .inl (cy 0, 5376, .inl mpast)), ((A 6), .inl (cy 0, 6, .inl mreport)), ((A 7), .inl (cy 0, 5, .inl mpart)), ((A 8), .inl (cy 0, 5, .inl mcome)), ((A 9), .inl (cy 0, 60, .inl morder)), ((A 10), .inl (cy 0, 80, .inl mtext)), ((A 11), .inl (cy 0, 200, .inl u65.2.2.2)), ((A 12), .inl (cy 0, 672, .inl mahead))]) K hR [.int 42] [] 0 rfl rfl (c_X9_skips X.2.1 (gxD X) cy sd A mg mkept mspare mtrial mpast mreport mpart mcome morder mtext u65.2.2.2 mahead mhasKept mpasts mreports mthrown mordering mdetail mlength u65.2.1 u65.2.2.1 x55 42 hw) gX9_command_X9_skips rfl yok_X9_skips rfl rfl (by decide) rfl (Nat.le_of_ble_eq_true rfl) dX9_command_139 [0, 1, 2, 3, 4, 5, 6, 7, 8, 9, 10, 11, 12] rfl (by decide) (fun _ => rfl) (fun _ => rfl) (fun _ => rfl) ⟨rfl, rfl⟩ (fun u66 hw => ?_)
                        refine g_ifb_eq (tgt := 180) K dX9_command_142 (by decide) (fun hc => ?_) (fun hc => ?_)
                        · replace hw := hw.2 hc
                          refine g_iconst (v := 0) K dX9_command_180 rfl ?_
                          exact g_zret K E Er (false, u66.2, u65.2.2.1, x55, u65.2.2.2) hw rfl rfl rfl (Nat.le_refl _) (Nat.le_refl _) dX9_command_181
                        · replace hw := hw.1 hc
                          refine g_aload_n K 2 dX9_command_145 rfl ?_
                          refine g_iload_n K 1 dX9_command_146 rfl ?_
                          refine g_iconst (v := 3) K dX9_command_147 rfl ?_
                          refine g_iadd K dX9_command_148 ?_
                          refine g_iconst (v := 4) K dX9_command_149 rfl ?_
                          refine g_callV (st' := fun u67 => [.int (bI u67.1)]) (ws' := fun u67 => [((A 0), .inr (10, [.ref (A 1), .ref (A 2), .ref (A 3), .ref (A 4), .int mhasKept, .ref (A 5), .int mpasts, .ref (A 6), .int mreports, .int mthrown, .ref (A 7), .ref (A 8), .ref (A 9), .int mordering, .int mdetail, .ref (A 10), .int mlength, .int u67.2.1, .int u67.2.2.1, .ref (A 11), .int x55, .ref (A 12)])), ((A 1), .inl (cy 0, 672, .inl mg)), ((A 2), .inl (cy 0, 672, .inl mkept)), ((A 3), .inl (cy 0, 672, .inl mspare)), ((A 4), .inl (cy 0, 672, .inl mtrial)), ((A 5), .inl (cy 0, 5376, .inl mpast)), ((A 6), .inl (cy 0, 6, .inl mreport)), ((A 7), .inl (cy 0, 5, .inl mpart)), ((A 8), .inl (cy 0, 5, .inl mcome)), ((A 9), .inl (cy 0, 60, .inl morder)), ((A 10), .inl (cy 0, 80, .inl mtext)), ((A 11), .inl (cy 0, 200, .inl u67.2.2.2)), ((A 12), .inl (cy 0, 672, .inl mahead))]) K hR [.int (x1 + 3), .int 4] [] 0 rfl rfl (c_X9_puts X.2.1 (gxD X) cy sd A mg mkept mspare mtrial mpast mreport mpart mcome morder mtext u65.2.2.2 mahead mhasKept mpasts mreports mthrown mordering mdetail mlength u66.2 u65.2.2.1 x55 (x1 + 3) 4 hw) gX9_command_X9_puts rfl yok_X9_puts rfl rfl (by decide) rfl (Nat.le_of_ble_eq_true rfl) dX9_command_150 [0, 1, 2, 3, 4, 5, 6, 7, 8, 9, 10, 11, 12] rfl (by decide) (fun _ => rfl) (fun _ => rfl) (fun _ => rfl) ⟨rfl, rfl⟩ (fun u67 hw => ?_)
                          refine g_ifb_eq (tgt := 180) K dX9_command_153 (by decide) (fun hc => ?_) (fun hc => ?_)
                          · replace hw := hw.2 hc
                            refine g_iconst (v := 0) K dX9_command_180 rfl ?_
                            exact g_zret K E Er (false, u67.2.1, u67.2.2.1, x55, u67.2.2.2) hw rfl rfl rfl (Nat.le_refl _) (Nat.le_refl _) dX9_command_181
                          · replace hw := hw.1 hc
                            refine g_aload_n K 2 dX9_command_156 rfl ?_
                            refine g_bipush (v := 36) K dX9_command_157 rfl ?_
                            refine g_callV (st' := fun u68 => [.int (bI u68.1)]) (ws' := fun u68 => [((A 0), .inr (10, [.ref (A 1), .ref (A 2), .ref (A 3), .ref (A 4), .int mhasKept, .ref (A 5), .int mpasts, .ref (A 6), .int mreports, .int mthrown, .ref (A 7), .ref (A 8), .ref (A 9), .int mordering, .int mdetail, .ref (A 10), .int mlength, .int u68.2, .int u67.2.2.1, .ref (A 11), .int x55, .ref (A 12)])), ((A 1), .inl (cy 0, 672, .inl mg)), ((A 2), .inl (cy 0, 672, .inl mkept)), ((A 3), .inl (cy 0, 672, .inl mspare)), ((A 4), .inl (cy 0, 672, .inl mtrial)), ((A 5), .inl (cy 0, 5376, .inl mpast)), ((A 6), .inl (cy 0, 6, .inl mreport)), ((A 7), .inl (cy 0, 5, .inl mpart)), ((A 8), .inl (cy 0, 5, .inl mcome)), ((A 9), .inl (cy 0, 60, .inl morder)), ((A 10), .inl (cy 0, 80, .inl mtext)), ((A 11), .inl (cy 0, 200, .inl u67.2.2.2)), ((A 12), .inl (cy 0, 672, .inl mahead))]) K hR [.int 36] [] 0 rfl rfl (c_X9_skips X.2.1 (gxD X) cy sd A mg mkept mspare mtrial mpast mreport mpart mcome morder mtext u67.2.2.2 mahead mhasKept mpasts mreports mthrown mordering mdetail mlength u67.2.1 u67.2.2.1 x55 36 hw) gX9_command_X9_skips rfl yok_X9_skips rfl rfl (by decide) rfl (Nat.le_of_ble_eq_true rfl) dX9_command_159 [0, 1, 2, 3, 4, 5, 6, 7, 8, 9, 10, 11, 12] rfl (by decide) (fun _ => rfl) (fun _ => rfl) (fun _ => rfl) ⟨rfl, rfl⟩ (fun u68 hw => ?_)
                            refine g_ifb_eq (tgt := 180) K dX9_command_162 (by decide) (fun hc => ?_) (fun hc => ?_)
                            · replace hw := hw.2 hc
                              refine g_iconst (v := 0) K dX9_command_180 rfl ?_
                              exact g_zret K E Er (false, u68.2, u67.2.2.1, x55, u67.2.2.2) hw rfl rfl rfl (Nat.le_refl _) (Nat.le_refl _) dX9_command_181
                            · replace hw := hw.1 hc
                              refine g_aload_n K 2 dX9_command_165 rfl ?_
                              refine g_iload_n K 1 dX9_command_166 rfl ?_
                              refine g_iconst (v := 4) K dX9_command_167 rfl ?_
                              refine g_iadd K dX9_command_168 ?_
                              refine g_iconst (v := 4) K dX9_command_169 rfl ?_
                              refine g_callV (st' := fun u69 => [.int (bI u69.1)]) (ws' := fun u69 => [((A 0), .inr (10, [.ref (A 1), .ref (A 2), .ref (A 3), .ref (A 4), .int mhasKept, .ref (A 5), .int mpasts, .ref (A 6), .int mreports, .int mthrown, .ref (A 7), .ref (A 8), .ref (A 9), .int mordering, .int mdetail, .ref (A 10), .int mlength, .int u69.2.1, .int u69.2.2.1, .ref (A 11), .int x55, .ref (A 12)])), ((A 1), .inl (cy 0, 672, .inl mg)), ((A 2), .inl (cy 0, 672, .inl mkept)), ((A 3), .inl (cy 0, 672, .inl mspare)), ((A 4), .inl (cy 0, 672, .inl mtrial)), ((A 5), .inl (cy 0, 5376, .inl mpast)), ((A 6), .inl (cy 0, 6, .inl mreport)), ((A 7), .inl (cy 0, 5, .inl mpart)), ((A 8), .inl (cy 0, 5, .inl mcome)), ((A 9), .inl (cy 0, 60, .inl morder)), ((A 10), .inl (cy 0, 80, .inl mtext)), ((A 11), .inl (cy 0, 200, .inl u69.2.2.2)), ((A 12), .inl (cy 0, 672, .inl mahead))]) K hR [.int (x1 + 4), .int 4] [] 0 rfl rfl (c_X9_puts X.2.1 (gxD X) cy sd A mg mkept mspare mtrial mpast mreport mpart mcome morder mtext u67.2.2.2 mahead mhasKept mpasts mreports mthrown mordering mdetail mlength u68.2 u67.2.2.1 x55 (x1 + 4) 4 hw) gX9_command_X9_puts rfl yok_X9_puts rfl rfl (by decide) rfl (Nat.le_of_ble_eq_true rfl) dX9_command_170 [0, 1, 2, 3, 4, 5, 6, 7, 8, 9, 10, 11, 12] rfl (by decide) (fun _ => rfl) (fun _ => rfl) (fun _ => rfl) ⟨rfl, rfl⟩ (fun u69 hw => ?_)
                              refine g_ifb_eq (tgt := 180) K dX9_command_173 (by decide) (fun hc => ?_) (fun hc => ?_)
                              · replace hw := hw.2 hc
                                refine g_iconst (v := 0) K dX9_command_180 rfl ?_
                                exact g_zret K E Er (false, u69.2.1, u69.2.2.1, x55, u69.2.2.2) hw rfl rfl rfl (Nat.le_refl _) (Nat.le_refl _) dX9_command_181
                              · replace hw := hw.1 hc
                                refine g_iconst (v := 1) K dX9_command_176 rfl ?_
                                refine g_goto (tgt := 181) K dX9_command_177 (by decide) ?_
                                exact g_zret K E Er (true, u69.2.1, u69.2.2.1, x55, u69.2.2.2) hw rfl rfl rfl (Nat.le_refl _) (Nat.le_refl _) dX9_command_181
                    · replace hw := hw.2 hc
                      refine g_iconst (v := 0) K dX9_command_128 rfl ?_
                      exact g_zret K E Er (false, u65.2.1, u65.2.2.1, x55, u65.2.2.2) hw rfl rfl rfl (Nat.le_refl _) (Nat.le_refl _) dX9_command_129
            · replace hw := hw.1 hc
              refine g_aload_n K 2 dX9_command_77 rfl ?_
              refine g_iload_n K 1 dX9_command_78 rfl ?_
              refine g_iconst (v := 1) K dX9_command_79 rfl ?_
              refine g_iadd K dX9_command_80 ?_
              refine g_iconst (v := 4) K dX9_command_81 rfl ?_
              refine g_callV (st' := fun u70 => [.int (bI u70.1)]) (ws' := fun u70 => [((A 0), .inr (10, [.ref (A 1), .ref (A 2), .ref (A 3), .ref (A 4), .int mhasKept, .ref (A 5), .int mpasts, .ref (A 6), .int mreports, .int mthrown, .ref (A 7), .ref (A 8), .ref (A 9), .int mordering, .int mdetail, .ref (A 10), .int mlength, .int u70.2.1, .int u70.2.2.1, .ref (A 11), .int x55, .ref (A 12)])), ((A 1), .inl (cy 0, 672, .inl mg)), ((A 2), .inl (cy 0, 672, .inl mkept)), ((A 3), .inl (cy 0, 672, .inl mspare)), ((A 4), .inl (cy 0, 672, .inl mtrial)), ((A 5), .inl (cy 0, 5376, .inl mpast)), ((A 6), .inl (cy 0, 6, .inl mreport)), ((A 7), .inl (cy 0, 5, .inl mpart)), ((A 8), .inl (cy 0, 5, .inl mcome)), ((A 9), .inl (cy 0, 60, .inl morder)), ((A 10), .inl (cy 0, 80, .inl mtext)), ((A 11), .inl (cy 0, 200, .inl u70.2.2.2)), ((A 12), .inl (cy 0, 672, .inl mahead))]) K hR [.int (x1 + 1), .int 4] [] 0 rfl rfl (c_X9_puts X.2.1 (gxD X) cy sd A mg mkept mspare mtrial mpast mreport mpart mcome morder mtext (upd mtold (x1).toNatClampNeg u2) mahead mhasKept mpasts mreports mthrown mordering mdetail mlength x54 mnumber x55 (x1 + 1) 4 hw) gX9_command_X9_puts rfl yok_X9_puts rfl rfl (by decide) rfl (Nat.le_of_ble_eq_true rfl) dX9_command_82 [0, 1, 2, 3, 4, 5, 6, 7, 8, 9, 10, 11, 12] rfl (by decide) (fun _ => rfl) (fun _ => rfl) (fun _ => rfl) ⟨rfl, rfl⟩ (fun u70 hw => ?_)
              exact g_zret K E Er (u70.1, u70.2.1, u70.2.2.1, x55, u70.2.2.2) hw rfl (bI_narrow _) rfl (Nat.le_refl _) (Nat.le_refl _) dX9_command_85
        · replace hw := hw.2 hc
          refine g_iconst (v := 0) K dX9_command_36 rfl ?_
          exact g_zret K E Er (false, mspot, mnumber, mtolds, mtold) hw rfl rfl rfl (Nat.le_refl _) (Nat.le_refl _) dX9_command_37

def wp_X9_isText_L10 (mtext : XRow) (mlength : Int32) (k10_17 : Int32 → Int32 → Int32 → XRow → Prop) (k10_28 : Int32 → Int32 → Int32 → XRow → Prop) : Nat → Int32 → Int32 → Int32 → XRow → Prop
  | 0, _, _, _, _ => False
  | fu + 1, v1, v2, v3, v4 => wp_X9_command mtext v4 mlength v1 v2 v3 (fun u5 : Bool × Int32 × Int32 × Int32 × XRow => (u5.1 = true → (wp_X9_skips mtext mlength u5.2.1 59 (fun u6 : Bool × Int32 => (u6.1 = true → (wp_X9_isText_L10 mtext mlength k10_17 k10_28 fu u6.2 u5.2.2.1 u5.2.2.2.1 u5.2.2.2.2)) ∧ (u6.1 = false → (k10_28 u6.2 u5.2.2.1 u5.2.2.2.1 u5.2.2.2.2))))) ∧ (u5.1 = false → (k10_17 u5.2.1 u5.2.2.1 u5.2.2.2.1 u5.2.2.2.2)))
def wp_X9_isText (mtext : XRow) (mtold : XRow) (mlength : Int32) (mnumber : Int32) (post : (Bool × Int32 × Int32 × Int32 × XRow) → Prop) : Prop := ∃ fl, wp_X9_isText_L10 mtext mlength (fun (v7 : Int32) (v8 : Int32) (v9 : Int32) (v10 : XRow) => post (false, v7, v8, v9, v10)) (fun (v11 : Int32) (v12 : Int32) (v13 : Int32) (v14 : XRow) => (v11 = mlength → (post (true, v11, v12, v13, v14))) ∧ (¬ v11 = mlength → (post (false, v11, v12, v13, v14)))) fl 0 mnumber 0 mtold
theorem in_X9_isText_X9 : ∀ w ∈ u_ws RX9 TX9 22, w ∈ wsX9_isText := by decide +kernel
set_option maxRecDepth 100000 in
set_option maxHeartbeats 4000000 in
theorem c_X9_isText (l : Launch) (D : va_G) (cy : Nat → ClassId) (sd : xSd) (A : Nat → Nat) (mg : XRow) (mkept : XRow) (mspare : XRow) (mtrial : XRow) (mpast : XRow) (mreport : XRow) (mpart : XRow) (mcome : XRow) (morder : XRow) (mtext : XRow) (mtold : XRow) (mahead : XRow) (mhasKept : Int32) (mpasts : Int32) (mreports : Int32) (mthrown : Int32) (mordering : Int32) (mdetail : Int32) (mlength : Int32) (mspot : Int32) (mnumber : Int32) (mtolds : Int32) {post : (Bool × Int32 × Int32 × Int32 × XRow) → Prop} (hw : wp_X9_isText mtext mtold mlength mnumber post) : Ctr l D (xTys cy) sd yX9_isText wsX9_isText ({ frames := 4, cells := 0, slots := 0, locals := 89 } : Room) [.ref (A 0)] (fun u : Bool × Int32 × Int32 × Int32 × XRow => some (.int (bI u.1))) [((A 0), .inr (10, [.ref (A 1), .ref (A 2), .ref (A 3), .ref (A 4), .int mhasKept, .ref (A 5), .int mpasts, .ref (A 6), .int mreports, .int mthrown, .ref (A 7), .ref (A 8), .ref (A 9), .int mordering, .int mdetail, .ref (A 10), .int mlength, .int mspot, .int mnumber, .ref (A 11), .int mtolds, .ref (A 12)])), ((A 1), .inl (cy 0, 672, .inl mg)), ((A 2), .inl (cy 0, 672, .inl mkept)), ((A 3), .inl (cy 0, 672, .inl mspare)), ((A 4), .inl (cy 0, 672, .inl mtrial)), ((A 5), .inl (cy 0, 5376, .inl mpast)), ((A 6), .inl (cy 0, 6, .inl mreport)), ((A 7), .inl (cy 0, 5, .inl mpart)), ((A 8), .inl (cy 0, 5, .inl mcome)), ((A 9), .inl (cy 0, 60, .inl morder)), ((A 10), .inl (cy 0, 80, .inl mtext)), ((A 11), .inl (cy 0, 200, .inl mtold)), ((A 12), .inl (cy 0, 672, .inl mahead))] (fun u => [((A 0), .inr (10, [.ref (A 1), .ref (A 2), .ref (A 3), .ref (A 4), .int mhasKept, .ref (A 5), .int mpasts, .ref (A 6), .int mreports, .int mthrown, .ref (A 7), .ref (A 8), .ref (A 9), .int mordering, .int mdetail, .ref (A 10), .int mlength, .int u.2.1, .int u.2.2.1, .ref (A 11), .int u.2.2.2.1, .ref (A 12)])), ((A 1), .inl (cy 0, 672, .inl mg)), ((A 2), .inl (cy 0, 672, .inl mkept)), ((A 3), .inl (cy 0, 672, .inl mspare)), ((A 4), .inl (cy 0, 672, .inl mtrial)), ((A 5), .inl (cy 0, 5376, .inl mpast)), ((A 6), .inl (cy 0, 6, .inl mreport)), ((A 7), .inl (cy 0, 5, .inl mpart)), ((A 8), .inl (cy 0, 5, .inl mcome)), ((A 9), .inl (cy 0, 60, .inl morder)), ((A 10), .inl (cy 0, 80, .inl mtext)), ((A 11), .inl (cy 0, 200, .inl u.2.2.2.2)), ((A 12), .inl (cy 0, 672, .inl mahead))]) post := by
  refine Ctr.of (cc := cX9_isText) (maxL := 1) (ret := (some .boolean)) (lv0 := [(0, .ref (A 0))]) (by decide) rfl (Nat.le_of_ble_eq_true rfl) rfl ?_
  intro X El hR Er Enm ED E En K
  have K : Cx X cX9_isText RX9 wsX9_isText (xTys cy) sd := K
  have E : X.2.2.2.2.2.2.2.2.2.2.1 = xMQ X (fun u : Bool × Int32 × Int32 × Int32 × XRow => some (.int (bI u.1))) post (fun u => [((A 0), .inr (10, [.ref (A 1), .ref (A 2), .ref (A 3), .ref (A 4), .int mhasKept, .ref (A 5), .int mpasts, .ref (A 6), .int mreports, .int mthrown, .ref (A 7), .ref (A 8), .ref (A 9), .int mordering, .int mdetail, .ref (A 10), .int mlength, .int u.2.1, .int u.2.2.1, .ref (A 11), .int u.2.2.2.1, .ref (A 12)])), ((A 1), .inl (cy 0, 672, .inl mg)), ((A 2), .inl (cy 0, 672, .inl mkept)), ((A 3), .inl (cy 0, 672, .inl mspare)), ((A 4), .inl (cy 0, 672, .inl mtrial)), ((A 5), .inl (cy 0, 5376, .inl mpast)), ((A 6), .inl (cy 0, 6, .inl mreport)), ((A 7), .inl (cy 0, 5, .inl mpart)), ((A 8), .inl (cy 0, 5, .inl mcome)), ((A 9), .inl (cy 0, 60, .inl morder)), ((A 10), .inl (cy 0, 80, .inl mtext)), ((A 11), .inl (cy 0, 200, .inl u.2.2.2.2)), ((A 12), .inl (cy 0, 672, .inl mahead))]) 0 0 := E
  unfold wp_X9_isText at hw
  refine g_aload_n K 0 dX9_isText_0 rfl ?_
  refine g_iconst (v := 0) K dX9_isText_1 rfl ?_
  refine g_put (ty := .int) (ws' := [((A 0), .inr (10, [.ref (A 1), .ref (A 2), .ref (A 3), .ref (A 4), .int mhasKept, .ref (A 5), .int mpasts, .ref (A 6), .int mreports, .int mthrown, .ref (A 7), .ref (A 8), .ref (A 9), .int mordering, .int mdetail, .ref (A 10), .int mlength, .int 0, .int mnumber, .ref (A 11), .int mtolds, .ref (A 12)])), ((A 1), .inl (cy 0, 672, .inl mg)), ((A 2), .inl (cy 0, 672, .inl mkept)), ((A 3), .inl (cy 0, 672, .inl mspare)), ((A 4), .inl (cy 0, 672, .inl mtrial)), ((A 5), .inl (cy 0, 5376, .inl mpast)), ((A 6), .inl (cy 0, 6, .inl mreport)), ((A 7), .inl (cy 0, 5, .inl mpart)), ((A 8), .inl (cy 0, 5, .inl mcome)), ((A 9), .inl (cy 0, 60, .inl morder)), ((A 10), .inl (cy 0, 80, .inl mtext)), ((A 11), .inl (cy 0, 200, .inl mtold)), ((A 12), .inl (cy 0, 672, .inl mahead))]) K (C := RX9) (T := TX9) (N := 22) 0 17 in_X9_isText_X9 tyX9 tyX9_ok nmX9 (by decide +kernel) rfl rfl (by decide) rfl (by decide +kernel) rfl rfl (Nat.le_of_ble_eq_true rfl) rfl dX9_isText_2 ?_
  refine g_aload_n K 0 dX9_isText_5 rfl ?_
  refine g_iconst (v := 0) K dX9_isText_6 rfl ?_
  refine g_put (ty := .int) (ws' := [((A 0), .inr (10, [.ref (A 1), .ref (A 2), .ref (A 3), .ref (A 4), .int mhasKept, .ref (A 5), .int mpasts, .ref (A 6), .int mreports, .int mthrown, .ref (A 7), .ref (A 8), .ref (A 9), .int mordering, .int mdetail, .ref (A 10), .int mlength, .int 0, .int mnumber, .ref (A 11), .int 0, .ref (A 12)])), ((A 1), .inl (cy 0, 672, .inl mg)), ((A 2), .inl (cy 0, 672, .inl mkept)), ((A 3), .inl (cy 0, 672, .inl mspare)), ((A 4), .inl (cy 0, 672, .inl mtrial)), ((A 5), .inl (cy 0, 5376, .inl mpast)), ((A 6), .inl (cy 0, 6, .inl mreport)), ((A 7), .inl (cy 0, 5, .inl mpart)), ((A 8), .inl (cy 0, 5, .inl mcome)), ((A 9), .inl (cy 0, 60, .inl morder)), ((A 10), .inl (cy 0, 80, .inl mtext)), ((A 11), .inl (cy 0, 200, .inl mtold)), ((A 12), .inl (cy 0, 672, .inl mahead))]) K (C := RX9) (T := TX9) (N := 22) 0 20 in_X9_isText_X9 tyX9 tyX9_ok nmX9 (by decide +kernel) rfl rfl (by decide) rfl (by decide +kernel) rfl rfl (Nat.le_of_ble_eq_true rfl) rfl dX9_isText_7 ?_
  obtain ⟨fl, hw⟩ := hw
  have key : ∀ (k10_17 : Int32 → Int32 → Int32 → XRow → Prop) (k10_28 : Int32 → Int32 → Int32 → XRow → Prop), (∀ (v1 : Int32) (v2 : Int32) (v3 : Int32) (v4 : XRow), k10_17 v1 v2 v3 v4 → Gx X 0 0 [((A 0), .inr (10, [.ref (A 1), .ref (A 2), .ref (A 3), .ref (A 4), .int mhasKept, .ref (A 5), .int mpasts, .ref (A 6), .int mreports, .int mthrown, .ref (A 7), .ref (A 8), .ref (A 9), .int mordering, .int mdetail, .ref (A 10), .int mlength, .int v1, .int v2, .ref (A 11), .int v3, .ref (A 12)])), ((A 1), .inl (cy 0, 672, .inl mg)), ((A 2), .inl (cy 0, 672, .inl mkept)), ((A 3), .inl (cy 0, 672, .inl mspare)), ((A 4), .inl (cy 0, 672, .inl mtrial)), ((A 5), .inl (cy 0, 5376, .inl mpast)), ((A 6), .inl (cy 0, 6, .inl mreport)), ((A 7), .inl (cy 0, 5, .inl mpart)), ((A 8), .inl (cy 0, 5, .inl mcome)), ((A 9), .inl (cy 0, 60, .inl morder)), ((A 10), .inl (cy 0, 80, .inl mtext)), ((A 11), .inl (cy 0, 200, .inl v4)), ((A 12), .inl (cy 0, 672, .inl mahead))] [(0, .ref (A 0))] 17 []) → (∀ (v1 : Int32) (v2 : Int32) (v3 : Int32) (v4 : XRow), k10_28 v1 v2 v3 v4 → Gx X 0 0 [((A 0), .inr (10, [.ref (A 1), .ref (A 2), .ref (A 3), .ref (A 4), .int mhasKept, .ref (A 5), .int mpasts, .ref (A 6), .int mreports, .int mthrown, .ref (A 7), .ref (A 8), .ref (A 9), .int mordering, .int mdetail, .ref (A 10), .int mlength, .int v1, .int v2, .ref (A 11), .int v3, .ref (A 12)])), ((A 1), .inl (cy 0, 672, .inl mg)), ((A 2), .inl (cy 0, 672, .inl mkept)), ((A 3), .inl (cy 0, 672, .inl mspare)), ((A 4), .inl (cy 0, 672, .inl mtrial)), ((A 5), .inl (cy 0, 5376, .inl mpast)), ((A 6), .inl (cy 0, 6, .inl mreport)), ((A 7), .inl (cy 0, 5, .inl mpart)), ((A 8), .inl (cy 0, 5, .inl mcome)), ((A 9), .inl (cy 0, 60, .inl morder)), ((A 10), .inl (cy 0, 80, .inl mtext)), ((A 11), .inl (cy 0, 200, .inl v4)), ((A 12), .inl (cy 0, 672, .inl mahead))] [(0, .ref (A 0))] 28 []) → ∀ (n : Nat) (v1 : Int32) (v2 : Int32) (v3 : Int32) (v4 : XRow), wp_X9_isText_L10 mtext mlength k10_17 k10_28 n v1 v2 v3 v4 → Gx X 0 0 [((A 0), .inr (10, [.ref (A 1), .ref (A 2), .ref (A 3), .ref (A 4), .int mhasKept, .ref (A 5), .int mpasts, .ref (A 6), .int mreports, .int mthrown, .ref (A 7), .ref (A 8), .ref (A 9), .int mordering, .int mdetail, .ref (A 10), .int mlength, .int v1, .int v2, .ref (A 11), .int v3, .ref (A 12)])), ((A 1), .inl (cy 0, 672, .inl mg)), ((A 2), .inl (cy 0, 672, .inl mkept)), ((A 3), .inl (cy 0, 672, .inl mspare)), ((A 4), .inl (cy 0, 672, .inl mtrial)), ((A 5), .inl (cy 0, 5376, .inl mpast)), ((A 6), .inl (cy 0, 6, .inl mreport)), ((A 7), .inl (cy 0, 5, .inl mpart)), ((A 8), .inl (cy 0, 5, .inl mcome)), ((A 9), .inl (cy 0, 60, .inl morder)), ((A 10), .inl (cy 0, 80, .inl mtext)), ((A 11), .inl (cy 0, 200, .inl v4)), ((A 12), .inl (cy 0, 672, .inl mahead))] [(0, .ref (A 0))] 10 [] := by
    intro k10_17 k10_28 hx17 hx28 n
    induction n with
    | zero => intro v1 v2 v3 v4 hw; exact hw.elim
    | succ n ih =>
      intro v1 v2 v3 v4 hw
      refine g_aload_n K 0 dX9_isText_10 rfl ?_
      refine g_callV (st' := fun u5 => [.int (bI u5.1)]) (ws' := fun u5 => [((A 0), .inr (10, [.ref (A 1), .ref (A 2), .ref (A 3), .ref (A 4), .int mhasKept, .ref (A 5), .int mpasts, .ref (A 6), .int mreports, .int mthrown, .ref (A 7), .ref (A 8), .ref (A 9), .int mordering, .int mdetail, .ref (A 10), .int mlength, .int u5.2.1, .int u5.2.2.1, .ref (A 11), .int u5.2.2.2.1, .ref (A 12)])), ((A 1), .inl (cy 0, 672, .inl mg)), ((A 2), .inl (cy 0, 672, .inl mkept)), ((A 3), .inl (cy 0, 672, .inl mspare)), ((A 4), .inl (cy 0, 672, .inl mtrial)), ((A 5), .inl (cy 0, 5376, .inl mpast)), ((A 6), .inl (cy 0, 6, .inl mreport)), ((A 7), .inl (cy 0, 5, .inl mpart)), ((A 8), .inl (cy 0, 5, .inl mcome)), ((A 9), .inl (cy 0, 60, .inl morder)), ((A 10), .inl (cy 0, 80, .inl mtext)), ((A 11), .inl (cy 0, 200, .inl u5.2.2.2.2)), ((A 12), .inl (cy 0, 672, .inl mahead))]) K hR [] [] 0 rfl rfl (c_X9_command X.2.1 (gxD X) cy sd A mg mkept mspare mtrial mpast mreport mpart mcome morder mtext v4 mahead mhasKept mpasts mreports mthrown mordering mdetail mlength v1 v2 v3 hw) gX9_isText_X9_command rfl yok_X9_command rfl rfl (by decide) rfl (Nat.le_of_ble_eq_true rfl) dX9_isText_11 [0, 1, 2, 3, 4, 5, 6, 7, 8, 9, 10, 11, 12] rfl (by decide) (fun _ => rfl) (fun _ => rfl) (fun _ => rfl) ⟨rfl, rfl⟩ (fun u5 hw => ?_)
      refine g_ifb_ne (tgt := 19) K dX9_isText_14 (by decide) (fun hc => ?_) (fun hc => ?_)
      · replace hw := hw.1 hc
        refine g_aload_n K 0 dX9_isText_19 rfl ?_
        refine g_bipush (v := 59) K dX9_isText_20 rfl ?_
        refine g_callV (st' := fun u6 => [.int (bI u6.1)]) (ws' := fun u6 => [((A 0), .inr (10, [.ref (A 1), .ref (A 2), .ref (A 3), .ref (A 4), .int mhasKept, .ref (A 5), .int mpasts, .ref (A 6), .int mreports, .int mthrown, .ref (A 7), .ref (A 8), .ref (A 9), .int mordering, .int mdetail, .ref (A 10), .int mlength, .int u6.2, .int u5.2.2.1, .ref (A 11), .int u5.2.2.2.1, .ref (A 12)])), ((A 1), .inl (cy 0, 672, .inl mg)), ((A 2), .inl (cy 0, 672, .inl mkept)), ((A 3), .inl (cy 0, 672, .inl mspare)), ((A 4), .inl (cy 0, 672, .inl mtrial)), ((A 5), .inl (cy 0, 5376, .inl mpast)), ((A 6), .inl (cy 0, 6, .inl mreport)), ((A 7), .inl (cy 0, 5, .inl mpart)), ((A 8), .inl (cy 0, 5, .inl mcome)), ((A 9), .inl (cy 0, 60, .inl morder)), ((A 10), .inl (cy 0, 80, .inl mtext)), ((A 11), .inl (cy 0, 200, .inl u5.2.2.2.2)), ((A 12), .inl (cy 0, 672, .inl mahead))]) K hR [.int 59] [] 0 rfl rfl (c_X9_skips X.2.1 (gxD X) cy sd A mg mkept mspare mtrial mpast mreport mpart mcome morder mtext u5.2.2.2.2 mahead mhasKept mpasts mreports mthrown mordering mdetail mlength u5.2.1 u5.2.2.1 u5.2.2.2.1 59 hw) gX9_isText_X9_skips rfl yok_X9_skips rfl rfl (by decide) rfl (Nat.le_of_ble_eq_true rfl) dX9_isText_22 [0, 1, 2, 3, 4, 5, 6, 7, 8, 9, 10, 11, 12] rfl (by decide) (fun _ => rfl) (fun _ => rfl) (fun _ => rfl) ⟨rfl, rfl⟩ (fun u6 hw => ?_)
        refine g_ifb_ne (tgt := 10) K dX9_isText_25 (by decide) (fun hc => ?_) (fun hc => ?_)
        · replace hw := hw.1 hc
          exact ih _ _ _ _ hw
        · replace hw := hw.2 hc
          exact hx28 _ _ _ _ hw
      · replace hw := hw.2 hc
        exact hx17 _ _ _ _ hw
  refine key _ _ (fun v7 v8 v9 v10 hw => ?_) (fun v11 v12 v13 v14 hw => ?_) fl _ _ _ _ hw
  · refine g_iconst (v := 0) K dX9_isText_17 rfl ?_
    exact g_zret K E Er (false, v7, v8, v9, v10) hw rfl rfl rfl (Nat.le_refl _) (Nat.le_refl _) dX9_isText_18
  · refine g_aload_n K 0 dX9_isText_28 rfl ?_
    refine g_get K (C := RX9) (T := TX9) (N := 22) 0 17 in_X9_isText_X9 (by decide +kernel) rfl rfl (by decide) rfl dX9_isText_29 ?_
    refine g_aload_n K 0 dX9_isText_32 rfl ?_
    refine g_get K (C := RX9) (T := TX9) (N := 22) 0 16 in_X9_isText_X9 (by decide +kernel) rfl rfl (by decide) rfl dX9_isText_33 ?_
    refine g_icmp_ne (tgt := 43) K dX9_isText_36 (by decide) (fun hc => ?_) (fun hc => ?_)
    · replace hw := hw.2 hc
      refine g_iconst (v := 0) K dX9_isText_43 rfl ?_
      exact g_zret K E Er (false, v11, v12, v13, v14) hw rfl rfl rfl (Nat.le_refl _) (Nat.le_refl _) dX9_isText_44
    · replace hw := hw.1 hc
      refine g_iconst (v := 1) K dX9_isText_39 rfl ?_
      refine g_goto (tgt := 44) K dX9_isText_40 (by decide) ?_
      exact g_zret K E Er (true, v11, v12, v13, v14) hw rfl rfl rfl (Nat.le_refl _) (Nat.le_refl _) dX9_isText_44

def wp_X9_does (mg : XRow) (mtrial : XRow) (mpart : XRow) (mcome : XRow) (mtold : XRow) (mdetail : Int32) (p0 : Int32) (post : (Bool × Int32 × XRow × XRow × XRow × XRow) → Prop) : Prop := vp_in ((5 * p0) + 1) 200 ∧ (∀ x1 : Int32, x1 = mtold ((5 * p0) + 1).toNatClampNeg → (vp_in ((5 * p0) + 2) 200 ∧ (∀ x2 : Int32, x2 = mtold ((5 * p0) + 2).toNatClampNeg → (vp_in ((5 * p0) + 3) 200 ∧ (∀ x3 : Int32, x3 = mtold ((5 * p0) + 3).toNatClampNeg → (vp_in ((5 * p0) + 4) 200 ∧ (∀ x4 : Int32, x4 = mtold ((5 * p0) + 4).toNatClampNeg → (vp_in (5 * p0) 200 ∧ (((mtold (5 * p0).toNatClampNeg) = 99 → (wp_X9_againstContract mg x1 x2 x3 x4 (fun u5 : Int32 => (u5 = 0 → (wp_X9_contracts mg x1 x2 x3 x4 (fun u6 : Int32 × XRow => (u6.1 < 0 → (post (false, mdetail, u6.2, mtrial, mpart, mcome))) ∧ (¬ u6.1 < 0 → (post (true, mdetail, u6.2, mtrial, mpart, mcome)))))) ∧ (¬ u5 = 0 → (post (false, mdetail, mg, mtrial, mpart, mcome)))))) ∧ ((mtold (5 * p0).toNatClampNeg) = 102 → (wp_X9_againstFeed mg x1 x2 (fun u7 : Int32 => (u7 = 0 → (wp_X9_feeds mg x1 x2 (fun u8 : Int32 × XRow => (u8.1 ≤ 0 → (post (false, mdetail, u8.2, mtrial, mpart, mcome))) ∧ (¬ u8.1 ≤ 0 → (post (true, mdetail, u8.2, mtrial, mpart, mcome)))))) ∧ (¬ u7 = 0 → (post (false, mdetail, mg, mtrial, mpart, mcome)))))) ∧ ((mtold (5 * p0).toNatClampNeg) = 114 → (wp_X9_againstRun mg x1 (fun u9 : Int32 => (u9 = 0 → (wp_X9_runs mg mtrial mpart mcome x1 (fun u10 : Int32 × XRow × XRow × XRow × XRow => (u10.1 < 0 → (post (false, mdetail, u10.2.1, u10.2.2.1, u10.2.2.2.1, u10.2.2.2.2))) ∧ (¬ u10.1 < 0 → (post (true, mdetail, u10.2.1, u10.2.2.1, u10.2.2.2.1, u10.2.2.2.2)))))) ∧ (¬ u9 = 0 → (post (false, mdetail, mg, mtrial, mpart, mcome)))))) ∧ (¬ (mtold (5 * p0).toNatClampNeg) = 99 ∧ ¬ (mtold (5 * p0).toNatClampNeg) = 102 ∧ ¬ (mtold (5 * p0).toNatClampNeg) = 114 → (wp_X9_isBale mg x1 (fun u11 : Bool => (u11 = true → (wp_X9_against mg mdetail x1 (fun u12 : Int32 × Int32 => (u12.1 = 0 → (wp_X9_sells mg x1 (fun u13 : Int32 × XRow => (u13.1 < 0 → (post (false, u12.2, u13.2, mtrial, mpart, mcome))) ∧ (¬ u13.1 < 0 → (post (true, u12.2, u13.2, mtrial, mpart, mcome)))))) ∧ (¬ u12.1 = 0 → (post (false, u12.2, mg, mtrial, mpart, mcome)))))) ∧ (u11 = false → (post (false, mdetail, mg, mtrial, mpart, mcome)))))))))))))))
theorem in_X9_does_X9 : ∀ w ∈ u_ws RX9 TX9 22, w ∈ wsX9_does := by decide +kernel
set_option maxRecDepth 100000 in
set_option maxHeartbeats 4000000 in
theorem c_X9_does (l : Launch) (D : va_G) (cy : Nat → ClassId) (sd : xSd) (A : Nat → Nat) (mg : XRow) (mkept : XRow) (mspare : XRow) (mtrial : XRow) (mpast : XRow) (mreport : XRow) (mpart : XRow) (mcome : XRow) (morder : XRow) (mtext : XRow) (mtold : XRow) (mahead : XRow) (mhasKept : Int32) (mpasts : Int32) (mreports : Int32) (mthrown : Int32) (mordering : Int32) (mdetail : Int32) (mlength : Int32) (mspot : Int32) (mnumber : Int32) (mtolds : Int32) (p0 : Int32) {post : (Bool × Int32 × XRow × XRow × XRow × XRow) → Prop} (hw : wp_X9_does mg mtrial mpart mcome mtold mdetail p0 post) : Ctr l D (xTys cy) sd yX9_does wsX9_does ({ frames := 6, cells := 0, slots := 0, locals := 145 } : Room) [.ref (A 0), .int p0] (fun u : Bool × Int32 × XRow × XRow × XRow × XRow => some (.int (bI u.1))) [((A 0), .inr (10, [.ref (A 1), .ref (A 2), .ref (A 3), .ref (A 4), .int mhasKept, .ref (A 5), .int mpasts, .ref (A 6), .int mreports, .int mthrown, .ref (A 7), .ref (A 8), .ref (A 9), .int mordering, .int mdetail, .ref (A 10), .int mlength, .int mspot, .int mnumber, .ref (A 11), .int mtolds, .ref (A 12)])), ((A 1), .inl (cy 0, 672, .inl mg)), ((A 2), .inl (cy 0, 672, .inl mkept)), ((A 3), .inl (cy 0, 672, .inl mspare)), ((A 4), .inl (cy 0, 672, .inl mtrial)), ((A 5), .inl (cy 0, 5376, .inl mpast)), ((A 6), .inl (cy 0, 6, .inl mreport)), ((A 7), .inl (cy 0, 5, .inl mpart)), ((A 8), .inl (cy 0, 5, .inl mcome)), ((A 9), .inl (cy 0, 60, .inl morder)), ((A 10), .inl (cy 0, 80, .inl mtext)), ((A 11), .inl (cy 0, 200, .inl mtold)), ((A 12), .inl (cy 0, 672, .inl mahead))] (fun u => [((A 0), .inr (10, [.ref (A 1), .ref (A 2), .ref (A 3), .ref (A 4), .int mhasKept, .ref (A 5), .int mpasts, .ref (A 6), .int mreports, .int mthrown, .ref (A 7), .ref (A 8), .ref (A 9), .int mordering, .int u.2.1, .ref (A 10), .int mlength, .int mspot, .int mnumber, .ref (A 11), .int mtolds, .ref (A 12)])), ((A 1), .inl (cy 0, 672, .inl u.2.2.1)), ((A 2), .inl (cy 0, 672, .inl mkept)), ((A 3), .inl (cy 0, 672, .inl mspare)), ((A 4), .inl (cy 0, 672, .inl u.2.2.2.1)), ((A 5), .inl (cy 0, 5376, .inl mpast)), ((A 6), .inl (cy 0, 6, .inl mreport)), ((A 7), .inl (cy 0, 5, .inl u.2.2.2.2.1)), ((A 8), .inl (cy 0, 5, .inl u.2.2.2.2.2)), ((A 9), .inl (cy 0, 60, .inl morder)), ((A 10), .inl (cy 0, 80, .inl mtext)), ((A 11), .inl (cy 0, 200, .inl mtold)), ((A 12), .inl (cy 0, 672, .inl mahead))]) post := by
  refine Ctr.of (cc := cX9_does) (maxL := 6) (ret := (some .boolean)) (lv0 := [(0, .ref (A 0)), (1, .int p0)]) (by decide) rfl (Nat.le_of_ble_eq_true rfl) rfl ?_
  intro X El hR Er Enm ED E En K
  have K : Cx X cX9_does RX9 wsX9_does (xTys cy) sd := K
  have E : X.2.2.2.2.2.2.2.2.2.2.1 = xMQ X (fun u : Bool × Int32 × XRow × XRow × XRow × XRow => some (.int (bI u.1))) post (fun u => [((A 0), .inr (10, [.ref (A 1), .ref (A 2), .ref (A 3), .ref (A 4), .int mhasKept, .ref (A 5), .int mpasts, .ref (A 6), .int mreports, .int mthrown, .ref (A 7), .ref (A 8), .ref (A 9), .int mordering, .int u.2.1, .ref (A 10), .int mlength, .int mspot, .int mnumber, .ref (A 11), .int mtolds, .ref (A 12)])), ((A 1), .inl (cy 0, 672, .inl u.2.2.1)), ((A 2), .inl (cy 0, 672, .inl mkept)), ((A 3), .inl (cy 0, 672, .inl mspare)), ((A 4), .inl (cy 0, 672, .inl u.2.2.2.1)), ((A 5), .inl (cy 0, 5376, .inl mpast)), ((A 6), .inl (cy 0, 6, .inl mreport)), ((A 7), .inl (cy 0, 5, .inl u.2.2.2.2.1)), ((A 8), .inl (cy 0, 5, .inl u.2.2.2.2.2)), ((A 9), .inl (cy 0, 60, .inl morder)), ((A 10), .inl (cy 0, 80, .inl mtext)), ((A 11), .inl (cy 0, 200, .inl mtold)), ((A 12), .inl (cy 0, 672, .inl mahead))]) 0 0 := E
  unfold wp_X9_does at hw
  refine g_aload_n K 0 dX9_does_0 rfl ?_
  refine g_get K (C := RX9) (T := TX9) (N := 22) 0 19 in_X9_does_X9 (by decide +kernel) rfl rfl (by decide) rfl dX9_does_1 ?_
  refine g_iconst (v := 5) K dX9_does_4 rfl ?_
  refine g_iload_n K 1 dX9_does_5 rfl ?_
  refine g_imul K dX9_does_6 ?_
  refine g_iconst (v := 1) K dX9_does_7 rfl ?_
  refine g_iadd K dX9_does_8 ?_
  refine g_iald K 11 0 rfl rfl hw.1 dX9_does_9 ?_
  replace hw := hw.2
  refine g_topi (fun x1 ex1 => ?_)
  replace hw := hw x1 ex1
  refine g_istore_n (lv' := [(2, .int x1), (0, .ref (A 0)), (1, .int p0)]) K dX9_does_10 rfl (by rw [En]; decide) rfl ?_
  refine g_aload_n K 1 dX9_does_11 rfl ?_
  refine g_get K (C := RX9) (T := TX9) (N := 22) 0 19 in_X9_does_X9 (by decide +kernel) rfl rfl (by decide) rfl dX9_does_12 ?_
  refine g_iconst (v := 5) K dX9_does_15 rfl ?_
  refine g_iload_n K 2 dX9_does_16 rfl ?_
  refine g_imul K dX9_does_17 ?_
  refine g_iconst (v := 2) K dX9_does_18 rfl ?_
  refine g_iadd K dX9_does_19 ?_
  refine g_iald K 11 0 rfl rfl hw.1 dX9_does_20 ?_
  replace hw := hw.2
  refine g_topi (fun x2 ex2 => ?_)
  replace hw := hw x2 ex2
  refine g_istore_n (lv' := [(3, .int x2), (2, .int x1), (0, .ref (A 0)), (1, .int p0)]) K dX9_does_21 rfl (by rw [En]; decide) rfl ?_
  refine g_aload_n K 2 dX9_does_22 rfl ?_
  refine g_get K (C := RX9) (T := TX9) (N := 22) 0 19 in_X9_does_X9 (by decide +kernel) rfl rfl (by decide) rfl dX9_does_23 ?_
  refine g_iconst (v := 5) K dX9_does_26 rfl ?_
  refine g_iload_n K 3 dX9_does_27 rfl ?_
  refine g_imul K dX9_does_28 ?_
  refine g_iconst (v := 3) K dX9_does_29 rfl ?_
  refine g_iadd K dX9_does_30 ?_
  refine g_iald K 11 0 rfl rfl hw.1 dX9_does_31 ?_
  replace hw := hw.2
  refine g_topi (fun x3 ex3 => ?_)
  replace hw := hw x3 ex3
  refine g_istore (lv' := [(4, .int x3), (3, .int x2), (2, .int x1), (0, .ref (A 0)), (1, .int p0)]) K dX9_does_32 (by rw [En]; decide) rfl ?_
  refine g_aload_n K 3 dX9_does_34 rfl ?_
  refine g_get K (C := RX9) (T := TX9) (N := 22) 0 19 in_X9_does_X9 (by decide +kernel) rfl rfl (by decide) rfl dX9_does_35 ?_
  refine g_iconst (v := 5) K dX9_does_38 rfl ?_
  refine g_iload_n K 4 dX9_does_39 rfl ?_
  refine g_imul K dX9_does_40 ?_
  refine g_iconst (v := 4) K dX9_does_41 rfl ?_
  refine g_iadd K dX9_does_42 ?_
  refine g_iald K 11 0 rfl rfl hw.1 dX9_does_43 ?_
  replace hw := hw.2
  refine g_topi (fun x4 ex4 => ?_)
  replace hw := hw x4 ex4
  refine g_istore (lv' := [(5, .int x4), (4, .int x3), (3, .int x2), (2, .int x1), (0, .ref (A 0)), (1, .int p0)]) K dX9_does_44 (by rw [En]; decide) rfl ?_
  refine g_aload_n K 4 dX9_does_46 rfl ?_
  refine g_get K (C := RX9) (T := TX9) (N := 22) 0 19 in_X9_does_X9 (by decide +kernel) rfl rfl (by decide) rfl dX9_does_47 ?_
  refine g_iconst (v := 5) K dX9_does_50 rfl ?_
  refine g_iload_n K 5 dX9_does_51 rfl ?_
  refine g_imul K dX9_does_52 ?_
  refine g_iald K 11 0 rfl rfl hw.1 dX9_does_53 ?_
  replace hw := hw.2
  by_cases hs99 : mtold (5 * p0).toNatClampNeg = 99
  · refine g_lookup (tgt := 134) (off := 80) K dX9_does_54 (by decide) (by rw [hs99]; rfl) (by decide) ?_
    replace hw := hw.1 hs99
    refine g_aload_n K 4 dX9_does_134 rfl ?_
    refine g_iload_n K 3 dX9_does_135 rfl ?_
    refine g_iload_n K 2 dX9_does_136 rfl ?_
    refine g_iload K 1 dX9_does_137 rfl ?_
    refine g_iload K 0 dX9_does_139 rfl ?_
    refine g_callVr (st' := fun u5 => [.int u5]) K hR [.int x1, .int x2, .int x3, .int x4] [] 0 rfl rfl (c_X9_againstContract X.2.1 (gxD X) cy sd A mg mkept mspare mtrial mpast mreport mpart mcome morder mtext mtold mahead mhasKept mpasts mreports mthrown mordering mdetail mlength mspot mnumber mtolds x1 x2 x3 x4 hw) gX9_does_X9_againstContract rfl yok_X9_againstContract rfl rfl (by decide) rfl (Nat.le_of_ble_eq_true rfl) dX9_does_141 [0, 1, 2, 3, 4, 5, 6, 7, 8, 9, 10, 11, 12] rfl (by decide) (fun _ => rfl) ⟨rfl, rfl⟩ (fun u5 hw => ?_)
    refine g_if_ne (tgt := 164) K dX9_does_144 (by decide) (fun hc => ?_) (fun hc => ?_)
    · replace hw := hw.2 hc
      refine g_iconst (v := 0) K dX9_does_164 rfl ?_
      exact g_zret K E Er (false, mdetail, mg, mtrial, mpart, mcome) hw rfl rfl rfl (Nat.le_refl _) (Nat.le_refl _) dX9_does_165
    · replace hw := hw.1 hc
      refine g_aload_n K 4 dX9_does_147 rfl ?_
      refine g_iload_n K 3 dX9_does_148 rfl ?_
      refine g_iload_n K 2 dX9_does_149 rfl ?_
      refine g_iload K 1 dX9_does_150 rfl ?_
      refine g_iload K 0 dX9_does_152 rfl ?_
      refine g_callV (st' := fun u6 => [.int u6.1]) (ws' := fun u6 => [((A 0), .inr (10, [.ref (A 1), .ref (A 2), .ref (A 3), .ref (A 4), .int mhasKept, .ref (A 5), .int mpasts, .ref (A 6), .int mreports, .int mthrown, .ref (A 7), .ref (A 8), .ref (A 9), .int mordering, .int mdetail, .ref (A 10), .int mlength, .int mspot, .int mnumber, .ref (A 11), .int mtolds, .ref (A 12)])), ((A 1), .inl (cy 0, 672, .inl u6.2)), ((A 2), .inl (cy 0, 672, .inl mkept)), ((A 3), .inl (cy 0, 672, .inl mspare)), ((A 4), .inl (cy 0, 672, .inl mtrial)), ((A 5), .inl (cy 0, 5376, .inl mpast)), ((A 6), .inl (cy 0, 6, .inl mreport)), ((A 7), .inl (cy 0, 5, .inl mpart)), ((A 8), .inl (cy 0, 5, .inl mcome)), ((A 9), .inl (cy 0, 60, .inl morder)), ((A 10), .inl (cy 0, 80, .inl mtext)), ((A 11), .inl (cy 0, 200, .inl mtold)), ((A 12), .inl (cy 0, 672, .inl mahead))]) K hR [.int x1, .int x2, .int x3, .int x4] [] 0 rfl rfl (c_X9_contracts X.2.1 (gxD X) cy sd A mg mkept mspare mtrial mpast mreport mpart mcome morder mtext mtold mahead mhasKept mpasts mreports mthrown mordering mdetail mlength mspot mnumber mtolds x1 x2 x3 x4 hw) gX9_does_X9_contracts rfl yok_X9_contracts rfl rfl (by decide) rfl (Nat.le_of_ble_eq_true rfl) dX9_does_154 [0, 1, 2, 3, 4, 5, 6, 7, 8, 9, 10, 11, 12] rfl (by decide) (fun _ => rfl) (fun _ => rfl) (fun _ => rfl) ⟨rfl, rfl⟩ (fun u6 hw => ?_)
      refine g_if_lt (tgt := 164) K dX9_does_157 (by decide) (fun hc => ?_) (fun hc => ?_)
      · replace hw := hw.1 hc
        refine g_iconst (v := 0) K dX9_does_164 rfl ?_
        exact g_zret K E Er (false, mdetail, u6.2, mtrial, mpart, mcome) hw rfl rfl rfl (Nat.le_refl _) (Nat.le_refl _) dX9_does_165
      · replace hw := hw.2 hc
        refine g_iconst (v := 1) K dX9_does_160 rfl ?_
        refine g_goto (tgt := 165) K dX9_does_161 (by decide) ?_
        exact g_zret K E Er (true, mdetail, u6.2, mtrial, mpart, mcome) hw rfl rfl rfl (Nat.le_refl _) (Nat.le_refl _) dX9_does_165
  replace hw := hw.2
  by_cases hs102 : mtold (5 * p0).toNatClampNeg = 102
  · refine g_lookup (tgt := 88) (off := 34) K dX9_does_54 (by decide) (by rw [hs102]; rfl) (by decide) ?_
    replace hw := hw.1 hs102
    refine g_aload_n K 4 dX9_does_88 rfl ?_
    refine g_iload_n K 3 dX9_does_89 rfl ?_
    refine g_iload_n K 2 dX9_does_90 rfl ?_
    refine g_callVr (st' := fun u7 => [.int u7]) K hR [.int x1, .int x2] [] 0 rfl rfl (c_X9_againstFeed X.2.1 (gxD X) cy sd A mg mkept mspare mtrial mpast mreport mpart mcome morder mtext mtold mahead mhasKept mpasts mreports mthrown mordering mdetail mlength mspot mnumber mtolds x1 x2 hw) gX9_does_X9_againstFeed rfl yok_X9_againstFeed rfl rfl (by decide) rfl (Nat.le_of_ble_eq_true rfl) dX9_does_91 [0, 1, 2, 3, 4, 5, 6, 7, 8, 9, 10, 11, 12] rfl (by decide) (fun _ => rfl) ⟨rfl, rfl⟩ (fun u7 hw => ?_)
    refine g_if_ne (tgt := 110) K dX9_does_94 (by decide) (fun hc => ?_) (fun hc => ?_)
    · replace hw := hw.2 hc
      refine g_iconst (v := 0) K dX9_does_110 rfl ?_
      exact g_zret K E Er (false, mdetail, mg, mtrial, mpart, mcome) hw rfl rfl rfl (Nat.le_refl _) (Nat.le_refl _) dX9_does_111
    · replace hw := hw.1 hc
      refine g_aload_n K 4 dX9_does_97 rfl ?_
      refine g_iload_n K 3 dX9_does_98 rfl ?_
      refine g_iload_n K 2 dX9_does_99 rfl ?_
      refine g_callV (st' := fun u8 => [.int u8.1]) (ws' := fun u8 => [((A 0), .inr (10, [.ref (A 1), .ref (A 2), .ref (A 3), .ref (A 4), .int mhasKept, .ref (A 5), .int mpasts, .ref (A 6), .int mreports, .int mthrown, .ref (A 7), .ref (A 8), .ref (A 9), .int mordering, .int mdetail, .ref (A 10), .int mlength, .int mspot, .int mnumber, .ref (A 11), .int mtolds, .ref (A 12)])), ((A 1), .inl (cy 0, 672, .inl u8.2)), ((A 2), .inl (cy 0, 672, .inl mkept)), ((A 3), .inl (cy 0, 672, .inl mspare)), ((A 4), .inl (cy 0, 672, .inl mtrial)), ((A 5), .inl (cy 0, 5376, .inl mpast)), ((A 6), .inl (cy 0, 6, .inl mreport)), ((A 7), .inl (cy 0, 5, .inl mpart)), ((A 8), .inl (cy 0, 5, .inl mcome)), ((A 9), .inl (cy 0, 60, .inl morder)), ((A 10), .inl (cy 0, 80, .inl mtext)), ((A 11), .inl (cy 0, 200, .inl mtold)), ((A 12), .inl (cy 0, 672, .inl mahead))]) K hR [.int x1, .int x2] [] 0 rfl rfl (c_X9_feeds X.2.1 (gxD X) cy sd A mg mkept mspare mtrial mpast mreport mpart mcome morder mtext mtold mahead mhasKept mpasts mreports mthrown mordering mdetail mlength mspot mnumber mtolds x1 x2 hw) gX9_does_X9_feeds rfl yok_X9_feeds rfl rfl (by decide) rfl (Nat.le_of_ble_eq_true rfl) dX9_does_100 [0, 1, 2, 3, 4, 5, 6, 7, 8, 9, 10, 11, 12] rfl (by decide) (fun _ => rfl) (fun _ => rfl) (fun _ => rfl) ⟨rfl, rfl⟩ (fun u8 hw => ?_)
      refine g_if_le (tgt := 110) K dX9_does_103 (by decide) (fun hc => ?_) (fun hc => ?_)
      · replace hw := hw.1 hc
        refine g_iconst (v := 0) K dX9_does_110 rfl ?_
        exact g_zret K E Er (false, mdetail, u8.2, mtrial, mpart, mcome) hw rfl rfl rfl (Nat.le_refl _) (Nat.le_refl _) dX9_does_111
      · replace hw := hw.2 hc
        refine g_iconst (v := 1) K dX9_does_106 rfl ?_
        refine g_goto (tgt := 111) K dX9_does_107 (by decide) ?_
        exact g_zret K E Er (true, mdetail, u8.2, mtrial, mpart, mcome) hw rfl rfl rfl (Nat.le_refl _) (Nat.le_refl _) dX9_does_111
  replace hw := hw.2
  by_cases hs114 : mtold (5 * p0).toNatClampNeg = 114
  · refine g_lookup (tgt := 112) (off := 58) K dX9_does_54 (by decide) (by rw [hs114]; rfl) (by decide) ?_
    replace hw := hw.1 hs114
    refine g_aload_n K 4 dX9_does_112 rfl ?_
    refine g_iload_n K 3 dX9_does_113 rfl ?_
    refine g_callVr (st' := fun u9 => [.int u9]) K hR [.int x1] [] 0 rfl rfl (c_X9_againstRun X.2.1 (gxD X) cy sd A mg mkept mspare mtrial mpast mreport mpart mcome morder mtext mtold mahead mhasKept mpasts mreports mthrown mordering mdetail mlength mspot mnumber mtolds x1 hw) gX9_does_X9_againstRun rfl yok_X9_againstRun rfl rfl (by decide) rfl (Nat.le_of_ble_eq_true rfl) dX9_does_114 [0, 1, 2, 3, 4, 5, 6, 7, 8, 9, 10, 11, 12] rfl (by decide) (fun _ => rfl) ⟨rfl, rfl⟩ (fun u9 hw => ?_)
    refine g_if_ne (tgt := 132) K dX9_does_117 (by decide) (fun hc => ?_) (fun hc => ?_)
    · replace hw := hw.2 hc
      refine g_iconst (v := 0) K dX9_does_132 rfl ?_
      exact g_zret K E Er (false, mdetail, mg, mtrial, mpart, mcome) hw rfl rfl rfl (Nat.le_refl _) (Nat.le_refl _) dX9_does_133
    · replace hw := hw.1 hc
      refine g_aload_n K 4 dX9_does_120 rfl ?_
      refine g_iload_n K 3 dX9_does_121 rfl ?_
      refine g_callV (st' := fun u10 => [.int u10.1]) (ws' := fun u10 => [((A 0), .inr (10, [.ref (A 1), .ref (A 2), .ref (A 3), .ref (A 4), .int mhasKept, .ref (A 5), .int mpasts, .ref (A 6), .int mreports, .int mthrown, .ref (A 7), .ref (A 8), .ref (A 9), .int mordering, .int mdetail, .ref (A 10), .int mlength, .int mspot, .int mnumber, .ref (A 11), .int mtolds, .ref (A 12)])), ((A 1), .inl (cy 0, 672, .inl u10.2.1)), ((A 2), .inl (cy 0, 672, .inl mkept)), ((A 3), .inl (cy 0, 672, .inl mspare)), ((A 4), .inl (cy 0, 672, .inl u10.2.2.1)), ((A 5), .inl (cy 0, 5376, .inl mpast)), ((A 6), .inl (cy 0, 6, .inl mreport)), ((A 7), .inl (cy 0, 5, .inl u10.2.2.2.1)), ((A 8), .inl (cy 0, 5, .inl u10.2.2.2.2)), ((A 9), .inl (cy 0, 60, .inl morder)), ((A 10), .inl (cy 0, 80, .inl mtext)), ((A 11), .inl (cy 0, 200, .inl mtold)), ((A 12), .inl (cy 0, 672, .inl mahead))]) K hR [.int x1] [] 0 rfl rfl (c_X9_runs X.2.1 (gxD X) cy sd A mg mkept mspare mtrial mpast mreport mpart mcome morder mtext mtold mahead mhasKept mpasts mreports mthrown mordering mdetail mlength mspot mnumber mtolds x1 hw) gX9_does_X9_runs rfl yok_X9_runs rfl rfl (by decide) rfl (Nat.le_of_ble_eq_true rfl) dX9_does_122 [0, 1, 2, 3, 4, 5, 6, 7, 8, 9, 10, 11, 12] rfl (by decide) (fun _ => rfl) (fun _ => rfl) (fun _ => rfl) ⟨rfl, rfl⟩ (fun u10 hw => ?_)
      refine g_if_lt (tgt := 132) K dX9_does_125 (by decide) (fun hc => ?_) (fun hc => ?_)
      · replace hw := hw.1 hc
        refine g_iconst (v := 0) K dX9_does_132 rfl ?_
        exact g_zret K E Er (false, mdetail, u10.2.1, u10.2.2.1, u10.2.2.2.1, u10.2.2.2.2) hw rfl rfl rfl (Nat.le_refl _) (Nat.le_refl _) dX9_does_133
      · replace hw := hw.2 hc
        refine g_iconst (v := 1) K dX9_does_128 rfl ?_
        refine g_goto (tgt := 133) K dX9_does_129 (by decide) ?_
        exact g_zret K E Er (true, mdetail, u10.2.1, u10.2.2.1, u10.2.2.2.1, u10.2.2.2.2) hw rfl rfl rfl (Nat.le_refl _) (Nat.le_refl _) dX9_does_133
  replace hw := hw.2
  refine g_lookup (tgt := 166) (off := 112) K dX9_does_54 (by decide) (by simp [Op.lookupswitch.offset, lk_ne 99 hs99 (by decide), lk_ne 102 hs102 (by decide), lk_ne 114 hs114 (by decide)]) (by decide) ?_
  replace hw := hw ⟨hs99, hs102, hs114⟩
  refine g_aload_n K 4 dX9_does_166 rfl ?_
  refine g_iload_n K 3 dX9_does_167 rfl ?_
  refine g_callVr (st' := fun u11 => [.int (bI u11)]) K hR [.int x1] [] 0 rfl rfl (c_X9_isBale X.2.1 (gxD X) cy sd A mg mkept mspare mtrial mpast mreport mpart mcome morder mtext mtold mahead mhasKept mpasts mreports mthrown mordering mdetail mlength mspot mnumber mtolds x1 hw) gX9_does_X9_isBale rfl yok_X9_isBale rfl rfl (by decide) rfl (Nat.le_of_ble_eq_true rfl) dX9_does_168 [0, 1, 2, 3, 4, 5, 6, 7, 8, 9, 10, 11, 12] rfl (by decide) (fun _ => rfl) ⟨rfl, rfl⟩ (fun u11 hw => ?_)
  refine g_ifb_eq (tgt := 194) K dX9_does_171 (by decide) (fun hc => ?_) (fun hc => ?_)
  · replace hw := hw.2 hc
    refine g_iconst (v := 0) K dX9_does_194 rfl ?_
    exact g_zret K E Er (false, mdetail, mg, mtrial, mpart, mcome) hw rfl rfl rfl (Nat.le_refl _) (Nat.le_refl _) dX9_does_195
  · replace hw := hw.1 hc
    refine g_aload_n K 4 dX9_does_174 rfl ?_
    refine g_iload_n K 3 dX9_does_175 rfl ?_
    refine g_callV (st' := fun u12 => [.int u12.1]) (ws' := fun u12 => [((A 0), .inr (10, [.ref (A 1), .ref (A 2), .ref (A 3), .ref (A 4), .int mhasKept, .ref (A 5), .int mpasts, .ref (A 6), .int mreports, .int mthrown, .ref (A 7), .ref (A 8), .ref (A 9), .int mordering, .int u12.2, .ref (A 10), .int mlength, .int mspot, .int mnumber, .ref (A 11), .int mtolds, .ref (A 12)])), ((A 1), .inl (cy 0, 672, .inl mg)), ((A 2), .inl (cy 0, 672, .inl mkept)), ((A 3), .inl (cy 0, 672, .inl mspare)), ((A 4), .inl (cy 0, 672, .inl mtrial)), ((A 5), .inl (cy 0, 5376, .inl mpast)), ((A 6), .inl (cy 0, 6, .inl mreport)), ((A 7), .inl (cy 0, 5, .inl mpart)), ((A 8), .inl (cy 0, 5, .inl mcome)), ((A 9), .inl (cy 0, 60, .inl morder)), ((A 10), .inl (cy 0, 80, .inl mtext)), ((A 11), .inl (cy 0, 200, .inl mtold)), ((A 12), .inl (cy 0, 672, .inl mahead))]) K hR [.int x1] [] 0 rfl rfl (c_X9_against X.2.1 (gxD X) cy sd A mg mkept mspare mtrial mpast mreport mpart mcome morder mtext mtold mahead mhasKept mpasts mreports mthrown mordering mdetail mlength mspot mnumber mtolds x1 hw) gX9_does_X9_against rfl yok_X9_against rfl rfl (by decide) rfl (Nat.le_of_ble_eq_true rfl) dX9_does_176 [0, 1, 2, 3, 4, 5, 6, 7, 8, 9, 10, 11, 12] rfl (by decide) (fun _ => rfl) (fun _ => rfl) (fun _ => rfl) ⟨rfl, rfl⟩ (fun u12 hw => ?_)
    refine g_if_ne (tgt := 194) K dX9_does_179 (by decide) (fun hc => ?_) (fun hc => ?_)
    · replace hw := hw.2 hc
      refine g_iconst (v := 0) K dX9_does_194 rfl ?_
      exact g_zret K E Er (false, u12.2, mg, mtrial, mpart, mcome) hw rfl rfl rfl (Nat.le_refl _) (Nat.le_refl _) dX9_does_195
    · replace hw := hw.1 hc
      refine g_aload_n K 4 dX9_does_182 rfl ?_
      refine g_iload_n K 3 dX9_does_183 rfl ?_
      refine g_callV (st' := fun u13 => [.int u13.1]) (ws' := fun u13 => [((A 0), .inr (10, [.ref (A 1), .ref (A 2), .ref (A 3), .ref (A 4), .int mhasKept, .ref (A 5), .int mpasts, .ref (A 6), .int mreports, .int mthrown, .ref (A 7), .ref (A 8), .ref (A 9), .int mordering, .int u12.2, .ref (A 10), .int mlength, .int mspot, .int mnumber, .ref (A 11), .int mtolds, .ref (A 12)])), ((A 1), .inl (cy 0, 672, .inl u13.2)), ((A 2), .inl (cy 0, 672, .inl mkept)), ((A 3), .inl (cy 0, 672, .inl mspare)), ((A 4), .inl (cy 0, 672, .inl mtrial)), ((A 5), .inl (cy 0, 5376, .inl mpast)), ((A 6), .inl (cy 0, 6, .inl mreport)), ((A 7), .inl (cy 0, 5, .inl mpart)), ((A 8), .inl (cy 0, 5, .inl mcome)), ((A 9), .inl (cy 0, 60, .inl morder)), ((A 10), .inl (cy 0, 80, .inl mtext)), ((A 11), .inl (cy 0, 200, .inl mtold)), ((A 12), .inl (cy 0, 672, .inl mahead))]) K hR [.int x1] [] 0 rfl rfl (c_X9_sells X.2.1 (gxD X) cy sd A mg mkept mspare mtrial mpast mreport mpart mcome morder mtext mtold mahead mhasKept mpasts mreports mthrown mordering u12.2 mlength mspot mnumber mtolds x1 hw) gX9_does_X9_sells rfl yok_X9_sells rfl rfl (by decide) rfl (Nat.le_of_ble_eq_true rfl) dX9_does_184 [0, 1, 2, 3, 4, 5, 6, 7, 8, 9, 10, 11, 12] rfl (by decide) (fun _ => rfl) (fun _ => rfl) (fun _ => rfl) ⟨rfl, rfl⟩ (fun u13 hw => ?_)
      refine g_if_lt (tgt := 194) K dX9_does_187 (by decide) (fun hc => ?_) (fun hc => ?_)
      · replace hw := hw.1 hc
        refine g_iconst (v := 0) K dX9_does_194 rfl ?_
        exact g_zret K E Er (false, u12.2, u13.2, mtrial, mpart, mcome) hw rfl rfl rfl (Nat.le_refl _) (Nat.le_refl _) dX9_does_195
      · replace hw := hw.2 hc
        refine g_iconst (v := 1) K dX9_does_190 rfl ?_
        refine g_goto (tgt := 195) K dX9_does_191 (by decide) ?_
        exact g_zret K E Er (true, u12.2, u13.2, mtrial, mpart, mcome) hw rfl rfl rfl (Nat.le_refl _) (Nat.le_refl _) dX9_does_195

def wp_X9_changes_o12_L11  (k11_40 : Int32 → XRow → Prop) : Nat → Int32 → XRow → Prop
  | 0, _, _ => False
  | fu + 1, v3, v4 => (4704 ≤ v3 → (k11_40 v3 v4)) ∧ (¬ 4704 ≤ v3 → (vp_in (v3 + 672) 5376 ∧ (vp_in v3 5376 ∧ (∀ x5 : Int32, x5 = v3 + 1 → (wp_X9_changes_o12_L11 k11_40 fu x5 (upd v4 (v3).toNatClampNeg (v4 (v3 + 672).toNatClampNeg)))))))
def wp_X9_changes_o12 (mpast : XRow) (mahead : XRow) (mpasts : Int32) (post : (Int32 × XRow) → Prop) : Prop := (mpasts = 8 → (∃ fl, wp_X9_changes_o12_L11  (fun (v6 : Int32) (v7 : XRow) => ∀ x8 : Int32, x8 = mpasts - 1 → (wp_X9_copies 672 mahead 5376 v7 0 (672 * x8) (fun u9 : XRow => ∀ x10 : Int32, x10 = x8 + 1 → (post (x10, u9))))) fl 0 mpast)) ∧ (¬ mpasts = 8 → (wp_X9_copies 672 mahead 5376 mpast 0 (672 * mpasts) (fun u1 : XRow => ∀ x2 : Int32, x2 = mpasts + 1 → (post (x2, u1)))))
theorem in_X9_changes_o12_X9 : ∀ w ∈ u_ws RX9 TX9 22, w ∈ wsX9_changes := by decide +kernel
set_option maxRecDepth 100000 in
set_option maxHeartbeats 4000000 in
theorem c_X9_changes_o12 (l : Launch) (D : va_G) (cy : Nat → ClassId) (sd : xSd) (A : Nat → Nat) (mg : XRow) (mkept : XRow) (mspare : XRow) (mtrial : XRow) (mpast : XRow) (mreport : XRow) (mpart : XRow) (mcome : XRow) (morder : XRow) (mtext : XRow) (mtold : XRow) (mahead : XRow) (mhasKept : Int32) (mpasts : Int32) (mreports : Int32) (mthrown : Int32) (mordering : Int32) (mdetail : Int32) (mlength : Int32) (mspot : Int32) (mnumber : Int32) (mtolds : Int32) {post : (Int32 × XRow) → Prop} (hw : wp_X9_changes_o12 mpast mahead mpasts post) : Ctr l D (xTys cy) sd yX9_changes wsX9_changes ({ frames := 1, cells := 0, slots := 0, locals := 24 } : Room) [.ref (A 0), .ref (A 12)] (fun u : Int32 × XRow => none) [((A 0), .inr (10, [.ref (A 1), .ref (A 2), .ref (A 3), .ref (A 4), .int mhasKept, .ref (A 5), .int mpasts, .ref (A 6), .int mreports, .int mthrown, .ref (A 7), .ref (A 8), .ref (A 9), .int mordering, .int mdetail, .ref (A 10), .int mlength, .int mspot, .int mnumber, .ref (A 11), .int mtolds, .ref (A 12)])), ((A 1), .inl (cy 0, 672, .inl mg)), ((A 2), .inl (cy 0, 672, .inl mkept)), ((A 3), .inl (cy 0, 672, .inl mspare)), ((A 4), .inl (cy 0, 672, .inl mtrial)), ((A 5), .inl (cy 0, 5376, .inl mpast)), ((A 6), .inl (cy 0, 6, .inl mreport)), ((A 7), .inl (cy 0, 5, .inl mpart)), ((A 8), .inl (cy 0, 5, .inl mcome)), ((A 9), .inl (cy 0, 60, .inl morder)), ((A 10), .inl (cy 0, 80, .inl mtext)), ((A 11), .inl (cy 0, 200, .inl mtold)), ((A 12), .inl (cy 0, 672, .inl mahead))] (fun u => [((A 0), .inr (10, [.ref (A 1), .ref (A 2), .ref (A 3), .ref (A 4), .int mhasKept, .ref (A 5), .int u.1, .ref (A 6), .int mreports, .int mthrown, .ref (A 7), .ref (A 8), .ref (A 9), .int mordering, .int mdetail, .ref (A 10), .int mlength, .int mspot, .int mnumber, .ref (A 11), .int mtolds, .ref (A 12)])), ((A 1), .inl (cy 0, 672, .inl mg)), ((A 2), .inl (cy 0, 672, .inl mkept)), ((A 3), .inl (cy 0, 672, .inl mspare)), ((A 4), .inl (cy 0, 672, .inl mtrial)), ((A 5), .inl (cy 0, 5376, .inl u.2)), ((A 6), .inl (cy 0, 6, .inl mreport)), ((A 7), .inl (cy 0, 5, .inl mpart)), ((A 8), .inl (cy 0, 5, .inl mcome)), ((A 9), .inl (cy 0, 60, .inl morder)), ((A 10), .inl (cy 0, 80, .inl mtext)), ((A 11), .inl (cy 0, 200, .inl mtold)), ((A 12), .inl (cy 0, 672, .inl mahead))]) post := by
  refine Ctr.of (cc := cX9_changes) (maxL := 3) (ret := none) (lv0 := [(0, .ref (A 0)), (1, .ref (A 12))]) (by decide) rfl (Nat.le_of_ble_eq_true rfl) rfl ?_
  intro X El hR Er Enm ED E En K
  have K : Cx X cX9_changes RX9 wsX9_changes (xTys cy) sd := K
  have E : X.2.2.2.2.2.2.2.2.2.2.1 = xMQ X (fun u : Int32 × XRow => none) post (fun u => [((A 0), .inr (10, [.ref (A 1), .ref (A 2), .ref (A 3), .ref (A 4), .int mhasKept, .ref (A 5), .int u.1, .ref (A 6), .int mreports, .int mthrown, .ref (A 7), .ref (A 8), .ref (A 9), .int mordering, .int mdetail, .ref (A 10), .int mlength, .int mspot, .int mnumber, .ref (A 11), .int mtolds, .ref (A 12)])), ((A 1), .inl (cy 0, 672, .inl mg)), ((A 2), .inl (cy 0, 672, .inl mkept)), ((A 3), .inl (cy 0, 672, .inl mspare)), ((A 4), .inl (cy 0, 672, .inl mtrial)), ((A 5), .inl (cy 0, 5376, .inl u.2)), ((A 6), .inl (cy 0, 6, .inl mreport)), ((A 7), .inl (cy 0, 5, .inl mpart)), ((A 8), .inl (cy 0, 5, .inl mcome)), ((A 9), .inl (cy 0, 60, .inl morder)), ((A 10), .inl (cy 0, 80, .inl mtext)), ((A 11), .inl (cy 0, 200, .inl mtold)), ((A 12), .inl (cy 0, 672, .inl mahead))]) 0 0 := E
  unfold wp_X9_changes_o12 at hw
  refine g_aload_n K 0 dX9_changes_0 rfl ?_
  refine g_get K (C := RX9) (T := TX9) (N := 22) 0 6 in_X9_changes_o12_X9 (by decide +kernel) rfl rfl (by decide) rfl dX9_changes_1 ?_
  refine g_bipush (v := 8) K dX9_changes_4 rfl ?_
  refine g_icmp_ne (tgt := 50) K dX9_changes_6 (by decide) (fun hc => ?_) (fun hc => ?_)
  · replace hw := hw.2 hc
    refine g_aload_n K 1 dX9_changes_50 rfl ?_
    refine g_iconst (v := 0) K dX9_changes_51 rfl ?_
    refine g_aload_n K 0 dX9_changes_52 rfl ?_
    refine g_get K (C := RX9) (T := TX9) (N := 22) 0 5 in_X9_changes_o12_X9 (by decide +kernel) rfl rfl (by decide) rfl dX9_changes_53 ?_
    refine g_sipush (v := 672) K dX9_changes_56 rfl ?_
    refine g_aload_n K 0 dX9_changes_59 rfl ?_
    refine g_get K (C := RX9) (T := TX9) (N := 22) 0 6 in_X9_changes_o12_X9 (by decide +kernel) rfl rfl (by decide) rfl dX9_changes_60 ?_
    refine g_imul K dX9_changes_63 ?_
    refine g_callS (st' := fun u1 => []) (ws' := fun u1 => [((A 0), .inr (10, [.ref (A 1), .ref (A 2), .ref (A 3), .ref (A 4), .int mhasKept, .ref (A 5), .int mpasts, .ref (A 6), .int mreports, .int mthrown, .ref (A 7), .ref (A 8), .ref (A 9), .int mordering, .int mdetail, .ref (A 10), .int mlength, .int mspot, .int mnumber, .ref (A 11), .int mtolds, .ref (A 12)])), ((A 1), .inl (cy 0, 672, .inl mg)), ((A 2), .inl (cy 0, 672, .inl mkept)), ((A 3), .inl (cy 0, 672, .inl mspare)), ((A 4), .inl (cy 0, 672, .inl mtrial)), ((A 5), .inl (cy 0, 5376, .inl u1)), ((A 6), .inl (cy 0, 6, .inl mreport)), ((A 7), .inl (cy 0, 5, .inl mpart)), ((A 8), .inl (cy 0, 5, .inl mcome)), ((A 9), .inl (cy 0, 60, .inl morder)), ((A 10), .inl (cy 0, 80, .inl mtext)), ((A 11), .inl (cy 0, 200, .inl mtold)), ((A 12), .inl (cy 0, 672, .inl mahead))]) K hR [.ref (A 12), .int 0, .ref (A 5), .int (672 * mpasts)] [] (c_X9_copies X.2.1 (gxD X) cy sd (A 12) (A 5) 672 mahead 5376 mpast 0 (672 * mpasts) hw) gX9_changes_X9_copies rfl yok_X9_copies rfl (by decide) rfl (Nat.le_of_ble_eq_true rfl) dX9_changes_64 [12, 5] rfl (by decide) (fun _ => rfl) (fun _ => rfl) (fun _ => rfl) ⟨rfl, rfl⟩ (fun u1 hw => ?_)
    refine g_aload_n K 0 dX9_changes_67 rfl ?_
    refine g_dup K dX9_changes_68 rfl ?_
    refine g_get K (C := RX9) (T := TX9) (N := 22) 0 6 in_X9_changes_o12_X9 (by decide +kernel) rfl rfl (by decide) rfl dX9_changes_69 ?_
    refine g_iconst (v := 1) K dX9_changes_72 rfl ?_
    refine g_iadd K dX9_changes_73 ?_
    refine g_topi (fun x2 ex2 => ?_)
    replace hw := hw x2 ex2
    refine g_put (ty := .int) (ws' := [((A 0), .inr (10, [.ref (A 1), .ref (A 2), .ref (A 3), .ref (A 4), .int mhasKept, .ref (A 5), .int x2, .ref (A 6), .int mreports, .int mthrown, .ref (A 7), .ref (A 8), .ref (A 9), .int mordering, .int mdetail, .ref (A 10), .int mlength, .int mspot, .int mnumber, .ref (A 11), .int mtolds, .ref (A 12)])), ((A 1), .inl (cy 0, 672, .inl mg)), ((A 2), .inl (cy 0, 672, .inl mkept)), ((A 3), .inl (cy 0, 672, .inl mspare)), ((A 4), .inl (cy 0, 672, .inl mtrial)), ((A 5), .inl (cy 0, 5376, .inl u1)), ((A 6), .inl (cy 0, 6, .inl mreport)), ((A 7), .inl (cy 0, 5, .inl mpart)), ((A 8), .inl (cy 0, 5, .inl mcome)), ((A 9), .inl (cy 0, 60, .inl morder)), ((A 10), .inl (cy 0, 80, .inl mtext)), ((A 11), .inl (cy 0, 200, .inl mtold)), ((A 12), .inl (cy 0, 672, .inl mahead))]) K (C := RX9) (T := TX9) (N := 22) 0 6 in_X9_changes_o12_X9 tyX9 tyX9_ok nmX9 (by decide +kernel) rfl rfl (by decide) rfl (by decide +kernel) rfl rfl (Nat.le_of_ble_eq_true rfl) rfl dX9_changes_74 ?_
    exact g_vret K E Er (x2, u1) hw rfl rfl (Nat.le_refl _) (Nat.le_refl _) dX9_changes_77
  · replace hw := hw.1 hc
    refine g_iconst (v := 0) K dX9_changes_9 rfl ?_
    refine g_istore_n (lv' := [(2, .int 0), (0, .ref (A 0)), (1, .ref (A 12))]) K dX9_changes_10 rfl (by rw [En]; decide) rfl ?_
    obtain ⟨fl, hw⟩ := hw
    have key : ∀ (k11_40 : Int32 → XRow → Prop), (∀ (v3 : Int32) (v4 : XRow), k11_40 v3 v4 → Gx X 0 0 [((A 0), .inr (10, [.ref (A 1), .ref (A 2), .ref (A 3), .ref (A 4), .int mhasKept, .ref (A 5), .int mpasts, .ref (A 6), .int mreports, .int mthrown, .ref (A 7), .ref (A 8), .ref (A 9), .int mordering, .int mdetail, .ref (A 10), .int mlength, .int mspot, .int mnumber, .ref (A 11), .int mtolds, .ref (A 12)])), ((A 1), .inl (cy 0, 672, .inl mg)), ((A 2), .inl (cy 0, 672, .inl mkept)), ((A 3), .inl (cy 0, 672, .inl mspare)), ((A 4), .inl (cy 0, 672, .inl mtrial)), ((A 5), .inl (cy 0, 5376, .inl v4)), ((A 6), .inl (cy 0, 6, .inl mreport)), ((A 7), .inl (cy 0, 5, .inl mpart)), ((A 8), .inl (cy 0, 5, .inl mcome)), ((A 9), .inl (cy 0, 60, .inl morder)), ((A 10), .inl (cy 0, 80, .inl mtext)), ((A 11), .inl (cy 0, 200, .inl mtold)), ((A 12), .inl (cy 0, 672, .inl mahead))] [(2, .int v3), (0, .ref (A 0)), (1, .ref (A 12))] 40 []) → ∀ (n : Nat) (v3 : Int32) (v4 : XRow), wp_X9_changes_o12_L11 k11_40 n v3 v4 → Gx X 0 0 [((A 0), .inr (10, [.ref (A 1), .ref (A 2), .ref (A 3), .ref (A 4), .int mhasKept, .ref (A 5), .int mpasts, .ref (A 6), .int mreports, .int mthrown, .ref (A 7), .ref (A 8), .ref (A 9), .int mordering, .int mdetail, .ref (A 10), .int mlength, .int mspot, .int mnumber, .ref (A 11), .int mtolds, .ref (A 12)])), ((A 1), .inl (cy 0, 672, .inl mg)), ((A 2), .inl (cy 0, 672, .inl mkept)), ((A 3), .inl (cy 0, 672, .inl mspare)), ((A 4), .inl (cy 0, 672, .inl mtrial)), ((A 5), .inl (cy 0, 5376, .inl v4)), ((A 6), .inl (cy 0, 6, .inl mreport)), ((A 7), .inl (cy 0, 5, .inl mpart)), ((A 8), .inl (cy 0, 5, .inl mcome)), ((A 9), .inl (cy 0, 60, .inl morder)), ((A 10), .inl (cy 0, 80, .inl mtext)), ((A 11), .inl (cy 0, 200, .inl mtold)), ((A 12), .inl (cy 0, 672, .inl mahead))] [(2, .int v3), (0, .ref (A 0)), (1, .ref (A 12))] 11 [] := by
      intro k11_40 hx40 n
      induction n with
      | zero => intro v3 v4 hw; exact hw.elim
      | succ n ih =>
        intro v3 v4 hw
        refine g_iload_n K 0 dX9_changes_11 rfl ?_
        refine g_sipush (v := 4704) K dX9_changes_12 rfl ?_
        refine g_icmp_ge (tgt := 40) K dX9_changes_15 (by decide) (fun hc => ?_) (fun hc => ?_)
        · replace hw := hw.1 hc
          exact hx40 _ _ hw
        · replace hw := hw.2 hc
          refine g_aload_n K 1 dX9_changes_18 rfl ?_
          refine g_get K (C := RX9) (T := TX9) (N := 22) 0 5 in_X9_changes_o12_X9 (by decide +kernel) rfl rfl (by decide) rfl dX9_changes_19 ?_
          refine g_iload_n K 0 dX9_changes_22 rfl ?_
          refine g_aload_n K 1 dX9_changes_23 rfl ?_
          refine g_get K (C := RX9) (T := TX9) (N := 22) 0 5 in_X9_changes_o12_X9 (by decide +kernel) rfl rfl (by decide) rfl dX9_changes_24 ?_
          refine g_iload_n K 0 dX9_changes_27 rfl ?_
          refine g_sipush (v := 672) K dX9_changes_28 rfl ?_
          refine g_iadd K dX9_changes_31 ?_
          refine g_iald K 5 0 rfl rfl hw.1 dX9_changes_32 ?_
          replace hw := hw.2
          refine g_iast (ws' := [((A 0), .inr (10, [.ref (A 1), .ref (A 2), .ref (A 3), .ref (A 4), .int mhasKept, .ref (A 5), .int mpasts, .ref (A 6), .int mreports, .int mthrown, .ref (A 7), .ref (A 8), .ref (A 9), .int mordering, .int mdetail, .ref (A 10), .int mlength, .int mspot, .int mnumber, .ref (A 11), .int mtolds, .ref (A 12)])), ((A 1), .inl (cy 0, 672, .inl mg)), ((A 2), .inl (cy 0, 672, .inl mkept)), ((A 3), .inl (cy 0, 672, .inl mspare)), ((A 4), .inl (cy 0, 672, .inl mtrial)), ((A 5), .inl (cy 0, 5376, .inl (upd v4 (v3).toNatClampNeg (v4 (v3 + 672).toNatClampNeg)))), ((A 6), .inl (cy 0, 6, .inl mreport)), ((A 7), .inl (cy 0, 5, .inl mpart)), ((A 8), .inl (cy 0, 5, .inl mcome)), ((A 9), .inl (cy 0, 60, .inl morder)), ((A 10), .inl (cy 0, 80, .inl mtext)), ((A 11), .inl (cy 0, 200, .inl mtold)), ((A 12), .inl (cy 0, 672, .inl mahead))]) K 5 0 rfl rfl hw.1 rfl dX9_changes_33 ?_
          replace hw := hw.2
          obtain ⟨x5, ex5⟩ : ∃ z : Int32, z = v3 + 1 := ⟨_, rfl⟩
          replace hw := hw x5 ex5
          refine g_iinc (v := x5) (lv' := [(2, .int x5), (0, .ref (A 0)), (1, .ref (A 12))]) K 0 dX9_changes_34 rfl (by rw [ex5]; rfl) (by rw [En]; decide) rfl ?_
          refine g_goto (tgt := 11) K dX9_changes_37 (by decide) ?_
          exact ih _ _ hw
    refine key _ (fun v6 v7 hw => ?_) fl _ _ hw
    refine g_aload_n K 1 dX9_changes_40 rfl ?_
    refine g_dup K dX9_changes_41 rfl ?_
    refine g_get K (C := RX9) (T := TX9) (N := 22) 0 6 in_X9_changes_o12_X9 (by decide +kernel) rfl rfl (by decide) rfl dX9_changes_42 ?_
    refine g_iconst (v := 1) K dX9_changes_45 rfl ?_
    refine g_isub K dX9_changes_46 ?_
    refine g_topi (fun x8 ex8 => ?_)
    replace hw := hw x8 ex8
    refine g_put (ty := .int) (ws' := [((A 0), .inr (10, [.ref (A 1), .ref (A 2), .ref (A 3), .ref (A 4), .int mhasKept, .ref (A 5), .int x8, .ref (A 6), .int mreports, .int mthrown, .ref (A 7), .ref (A 8), .ref (A 9), .int mordering, .int mdetail, .ref (A 10), .int mlength, .int mspot, .int mnumber, .ref (A 11), .int mtolds, .ref (A 12)])), ((A 1), .inl (cy 0, 672, .inl mg)), ((A 2), .inl (cy 0, 672, .inl mkept)), ((A 3), .inl (cy 0, 672, .inl mspare)), ((A 4), .inl (cy 0, 672, .inl mtrial)), ((A 5), .inl (cy 0, 5376, .inl v7)), ((A 6), .inl (cy 0, 6, .inl mreport)), ((A 7), .inl (cy 0, 5, .inl mpart)), ((A 8), .inl (cy 0, 5, .inl mcome)), ((A 9), .inl (cy 0, 60, .inl morder)), ((A 10), .inl (cy 0, 80, .inl mtext)), ((A 11), .inl (cy 0, 200, .inl mtold)), ((A 12), .inl (cy 0, 672, .inl mahead))]) K (C := RX9) (T := TX9) (N := 22) 0 6 in_X9_changes_o12_X9 tyX9 tyX9_ok nmX9 (by decide +kernel) rfl rfl (by decide) rfl (by decide +kernel) rfl rfl (Nat.le_of_ble_eq_true rfl) rfl dX9_changes_47 ?_
    refine g_aload_n K 2 dX9_changes_50 rfl ?_
    refine g_iconst (v := 0) K dX9_changes_51 rfl ?_
    refine g_aload_n K 1 dX9_changes_52 rfl ?_
    refine g_get K (C := RX9) (T := TX9) (N := 22) 0 5 in_X9_changes_o12_X9 (by decide +kernel) rfl rfl (by decide) rfl dX9_changes_53 ?_
    refine g_sipush (v := 672) K dX9_changes_56 rfl ?_
    refine g_aload_n K 1 dX9_changes_59 rfl ?_
    refine g_get K (C := RX9) (T := TX9) (N := 22) 0 6 in_X9_changes_o12_X9 (by decide +kernel) rfl rfl (by decide) rfl dX9_changes_60 ?_
    refine g_imul K dX9_changes_63 ?_
    refine g_callS (st' := fun u9 => []) (ws' := fun u9 => [((A 0), .inr (10, [.ref (A 1), .ref (A 2), .ref (A 3), .ref (A 4), .int mhasKept, .ref (A 5), .int x8, .ref (A 6), .int mreports, .int mthrown, .ref (A 7), .ref (A 8), .ref (A 9), .int mordering, .int mdetail, .ref (A 10), .int mlength, .int mspot, .int mnumber, .ref (A 11), .int mtolds, .ref (A 12)])), ((A 1), .inl (cy 0, 672, .inl mg)), ((A 2), .inl (cy 0, 672, .inl mkept)), ((A 3), .inl (cy 0, 672, .inl mspare)), ((A 4), .inl (cy 0, 672, .inl mtrial)), ((A 5), .inl (cy 0, 5376, .inl u9)), ((A 6), .inl (cy 0, 6, .inl mreport)), ((A 7), .inl (cy 0, 5, .inl mpart)), ((A 8), .inl (cy 0, 5, .inl mcome)), ((A 9), .inl (cy 0, 60, .inl morder)), ((A 10), .inl (cy 0, 80, .inl mtext)), ((A 11), .inl (cy 0, 200, .inl mtold)), ((A 12), .inl (cy 0, 672, .inl mahead))]) K hR [.ref (A 12), .int 0, .ref (A 5), .int (672 * x8)] [] (c_X9_copies X.2.1 (gxD X) cy sd (A 12) (A 5) 672 mahead 5376 v7 0 (672 * x8) hw) gX9_changes_X9_copies rfl yok_X9_copies rfl (by decide) rfl (Nat.le_of_ble_eq_true rfl) dX9_changes_64 [12, 5] rfl (by decide) (fun _ => rfl) (fun _ => rfl) (fun _ => rfl) ⟨rfl, rfl⟩ (fun u9 hw => ?_)
    refine g_aload_n K 1 dX9_changes_67 rfl ?_
    refine g_dup K dX9_changes_68 rfl ?_
    refine g_get K (C := RX9) (T := TX9) (N := 22) 0 6 in_X9_changes_o12_X9 (by decide +kernel) rfl rfl (by decide) rfl dX9_changes_69 ?_
    refine g_iconst (v := 1) K dX9_changes_72 rfl ?_
    refine g_iadd K dX9_changes_73 ?_
    refine g_topi (fun x10 ex10 => ?_)
    replace hw := hw x10 ex10
    refine g_put (ty := .int) (ws' := [((A 0), .inr (10, [.ref (A 1), .ref (A 2), .ref (A 3), .ref (A 4), .int mhasKept, .ref (A 5), .int x10, .ref (A 6), .int mreports, .int mthrown, .ref (A 7), .ref (A 8), .ref (A 9), .int mordering, .int mdetail, .ref (A 10), .int mlength, .int mspot, .int mnumber, .ref (A 11), .int mtolds, .ref (A 12)])), ((A 1), .inl (cy 0, 672, .inl mg)), ((A 2), .inl (cy 0, 672, .inl mkept)), ((A 3), .inl (cy 0, 672, .inl mspare)), ((A 4), .inl (cy 0, 672, .inl mtrial)), ((A 5), .inl (cy 0, 5376, .inl u9)), ((A 6), .inl (cy 0, 6, .inl mreport)), ((A 7), .inl (cy 0, 5, .inl mpart)), ((A 8), .inl (cy 0, 5, .inl mcome)), ((A 9), .inl (cy 0, 60, .inl morder)), ((A 10), .inl (cy 0, 80, .inl mtext)), ((A 11), .inl (cy 0, 200, .inl mtold)), ((A 12), .inl (cy 0, 672, .inl mahead))]) K (C := RX9) (T := TX9) (N := 22) 0 6 in_X9_changes_o12_X9 tyX9 tyX9_ok nmX9 (by decide +kernel) rfl rfl (by decide) rfl (by decide +kernel) rfl rfl (Nat.le_of_ble_eq_true rfl) rfl dX9_changes_74 ?_
    exact g_vret K E Er (x10, u9) hw rfl rfl (Nat.le_refl _) (Nat.le_refl _) dX9_changes_77

def wp_X9_perform_L42 (u1 : Bool × Int32 × Int32 × Int32 × XRow) (k42_58 : Int32 → Int32 → XRow → XRow → XRow → XRow → Prop) (k42_157 : Int32 → Int32 → XRow → XRow → XRow → XRow → Prop) : Nat → Int32 → Int32 → XRow → XRow → XRow → XRow → Prop
  | 0, _, _, _, _, _, _ => False
  | fu + 1, v3, v4, v5, v6, v7, v8 => (u1.2.2.2.1 ≤ v3 → (k42_157 v3 v4 v5 v6 v7 v8)) ∧ (¬ u1.2.2.2.1 ≤ v3 → (wp_X9_does v5 v6 v7 v8 u1.2.2.2.2 v4 v3 (fun u9 : Bool × Int32 × XRow × XRow × XRow × XRow => (u9.1 = true → (∀ x10 : Int32, x10 = v3 + 1 → (wp_X9_perform_L42 u1 k42_58 k42_157 fu x10 u9.2.1 u9.2.2.1 u9.2.2.2.1 u9.2.2.2.2.1 u9.2.2.2.2.2))) ∧ (u9.1 = false → (k42_58 v3 u9.2.1 u9.2.2.1 u9.2.2.2.1 u9.2.2.2.2.1 u9.2.2.2.2.2)))))
def wp_X9_perform (mg : XRow) (mtrial : XRow) (mpast : XRow) (mreport : XRow) (mpart : XRow) (mcome : XRow) (mtext : XRow) (mtold : XRow) (mahead : XRow) (mpasts : Int32) (mreports : Int32) (mdetail : Int32) (mlength : Int32) (mnumber : Int32) (post : (Int32 × Int32 × Int32 × Int32 × Int32 × Int32 × Int32 × Int32 × Int32 × XRow × XRow × XRow × XRow × XRow × XRow × XRow × XRow) → Prop) : Prop := wp_X9_isText mtext mtold mlength mnumber (fun u1 : Bool × Int32 × Int32 × Int32 × XRow => (u1.1 = true → (wp_X9_copies 672 mg 672 mahead 0 0 (fun u2 : XRow => ∃ fl, wp_X9_perform_L42 u1 (fun (v11 : Int32) (v12 : Int32) (v13 : XRow) (v14 : XRow) (v15 : XRow) (v16 : XRow) => vp_in ((5 * v11) + 1) 200 ∧ (∀ x17 : Int32, x17 = u1.2.2.2.2 ((5 * v11) + 1).toNatClampNeg → (vp_in (5 * v11) 200 ∧ (((u1.2.2.2.2 (5 * v11).toNatClampNeg) = 115 → (wp_X9_isBale v13 x17 (fun u20 : Bool => (u20 = true → (wp_X9_against v13 v12 x17 (fun u23 : Int32 × Int32 => wp_X9_reports mreport 0 9 v11 (fun u24 : Int32 × XRow => wp_X9_baleAt x17 5 (fun u25 : Int32 => vp_in u25 672 ∧ (wp_X9_reports u24.2 1 x17 (v13 (u25).toNatClampNeg) (fun u26 : Int32 × XRow => wp_X9_reports u26.2 2 u23.1 u23.2 (fun u27 : Int32 × XRow => wp_X9_copies 672 u2 672 v13 0 0 (fun u28 : XRow => wp_X9_fails 1 (fun u29 : Int32 × Int32 => post (u29.1, mpasts, u27.1, u29.2, u23.2, 0, u1.2.1, u1.2.2.1, u1.2.2.2.1, u28, v14, mpast, u27.2, v15, v16, u1.2.2.2.2, u2))))))))))) ∧ (u20 = false → (wp_X9_copies 672 u2 672 v13 0 0 (fun u21 : XRow => wp_X9_fails 1 (fun u22 : Int32 × Int32 => post (u22.1, mpasts, mreports, u22.2, v12, 0, u1.2.1, u1.2.2.1, u1.2.2.2.1, u21, v14, mpast, mreport, v15, v16, u1.2.2.2.2, u2)))))))) ∧ (¬ (u1.2.2.2.2 (5 * v11).toNatClampNeg) = 115 → (wp_X9_copies 672 u2 672 v13 0 0 (fun u18 : XRow => wp_X9_fails 1 (fun u19 : Int32 × Int32 => post (u19.1, mpasts, mreports, u19.2, v12, 0, u1.2.1, u1.2.2.1, u1.2.2.2.1, u18, v14, mpast, mreport, v15, v16, u1.2.2.2.2, u2))))))))) (fun (v30 : Int32) (v31 : Int32) (v32 : XRow) (v33 : XRow) (v34 : XRow) (v35 : XRow) => wp_X9_changes_o12 mpast u2 mpasts (fun u36 : Int32 × XRow => post (u1.2.2.2.1, u36.1, mreports, 0, v31, 0, u1.2.1, u1.2.2.1, u1.2.2.2.1, v32, v33, u36.2, mreport, v34, v35, u1.2.2.2.2, u2))) fl 0 mdetail mg mtrial mpart mcome))) ∧ (u1.1 = false → (post ((-100) - u1.2.1, mpasts, mreports, 0, mdetail, 0, u1.2.1, u1.2.2.1, u1.2.2.2.1, mg, mtrial, mpast, mreport, mpart, mcome, u1.2.2.2.2, mahead))))
theorem in_X9_perform_X9 : ∀ w ∈ u_ws RX9 TX9 22, w ∈ wsX9_perform := by decide +kernel
set_option maxRecDepth 100000 in
set_option maxHeartbeats 4000000 in
theorem c_X9_perform (l : Launch) (D : va_G) (cy : Nat → ClassId) (sd : xSd) (A : Nat → Nat) (mg : XRow) (mkept : XRow) (mspare : XRow) (mtrial : XRow) (mpast : XRow) (mreport : XRow) (mpart : XRow) (mcome : XRow) (morder : XRow) (mtext : XRow) (mtold : XRow) (mahead : XRow) (mhasKept : Int32) (mpasts : Int32) (mreports : Int32) (mthrown : Int32) (mordering : Int32) (mdetail : Int32) (mlength : Int32) (mspot : Int32) (mnumber : Int32) (mtolds : Int32) {post : (Int32 × Int32 × Int32 × Int32 × Int32 × Int32 × Int32 × Int32 × Int32 × XRow × XRow × XRow × XRow × XRow × XRow × XRow × XRow) → Prop} (hw : wp_X9_perform mg mtrial mpast mreport mpart mcome mtext mtold mahead mpasts mreports mdetail mlength mnumber post) : Ctr l D (xTys cy) sd yX9_perform wsX9_perform ({ frames := 7, cells := 0, slots := 0, locals := 170 } : Room) [.ref (A 0)] (fun u : Int32 × Int32 × Int32 × Int32 × Int32 × Int32 × Int32 × Int32 × Int32 × XRow × XRow × XRow × XRow × XRow × XRow × XRow × XRow => some (.int u.1)) [((A 0), .inr (10, [.ref (A 1), .ref (A 2), .ref (A 3), .ref (A 4), .int mhasKept, .ref (A 5), .int mpasts, .ref (A 6), .int mreports, .int mthrown, .ref (A 7), .ref (A 8), .ref (A 9), .int mordering, .int mdetail, .ref (A 10), .int mlength, .int mspot, .int mnumber, .ref (A 11), .int mtolds, .ref (A 12)])), ((A 1), .inl (cy 0, 672, .inl mg)), ((A 2), .inl (cy 0, 672, .inl mkept)), ((A 3), .inl (cy 0, 672, .inl mspare)), ((A 4), .inl (cy 0, 672, .inl mtrial)), ((A 5), .inl (cy 0, 5376, .inl mpast)), ((A 6), .inl (cy 0, 6, .inl mreport)), ((A 7), .inl (cy 0, 5, .inl mpart)), ((A 8), .inl (cy 0, 5, .inl mcome)), ((A 9), .inl (cy 0, 60, .inl morder)), ((A 10), .inl (cy 0, 80, .inl mtext)), ((A 11), .inl (cy 0, 200, .inl mtold)), ((A 12), .inl (cy 0, 672, .inl mahead))] (fun u => [((A 0), .inr (10, [.ref (A 1), .ref (A 2), .ref (A 3), .ref (A 4), .int mhasKept, .ref (A 5), .int u.2.1, .ref (A 6), .int u.2.2.1, .int u.2.2.2.1, .ref (A 7), .ref (A 8), .ref (A 9), .int mordering, .int u.2.2.2.2.1, .ref (A 10), .int u.2.2.2.2.2.1, .int u.2.2.2.2.2.2.1, .int u.2.2.2.2.2.2.2.1, .ref (A 11), .int u.2.2.2.2.2.2.2.2.1, .ref (A 12)])), ((A 1), .inl (cy 0, 672, .inl u.2.2.2.2.2.2.2.2.2.1)), ((A 2), .inl (cy 0, 672, .inl mkept)), ((A 3), .inl (cy 0, 672, .inl mspare)), ((A 4), .inl (cy 0, 672, .inl u.2.2.2.2.2.2.2.2.2.2.1)), ((A 5), .inl (cy 0, 5376, .inl u.2.2.2.2.2.2.2.2.2.2.2.1)), ((A 6), .inl (cy 0, 6, .inl u.2.2.2.2.2.2.2.2.2.2.2.2.1)), ((A 7), .inl (cy 0, 5, .inl u.2.2.2.2.2.2.2.2.2.2.2.2.2.1)), ((A 8), .inl (cy 0, 5, .inl u.2.2.2.2.2.2.2.2.2.2.2.2.2.2.1)), ((A 9), .inl (cy 0, 60, .inl morder)), ((A 10), .inl (cy 0, 80, .inl mtext)), ((A 11), .inl (cy 0, 200, .inl u.2.2.2.2.2.2.2.2.2.2.2.2.2.2.2.1)), ((A 12), .inl (cy 0, 672, .inl u.2.2.2.2.2.2.2.2.2.2.2.2.2.2.2.2))]) post := by
  refine Ctr.of (cc := cX9_perform) (maxL := 5) (ret := (some .int)) (lv0 := [(0, .ref (A 0))]) (by decide) rfl (Nat.le_of_ble_eq_true rfl) rfl ?_
  intro X El hR Er Enm ED E En K
  have K : Cx X cX9_perform RX9 wsX9_perform (xTys cy) sd := K
  have E : X.2.2.2.2.2.2.2.2.2.2.1 = xMQ X (fun u : Int32 × Int32 × Int32 × Int32 × Int32 × Int32 × Int32 × Int32 × Int32 × XRow × XRow × XRow × XRow × XRow × XRow × XRow × XRow => some (.int u.1)) post (fun u => [((A 0), .inr (10, [.ref (A 1), .ref (A 2), .ref (A 3), .ref (A 4), .int mhasKept, .ref (A 5), .int u.2.1, .ref (A 6), .int u.2.2.1, .int u.2.2.2.1, .ref (A 7), .ref (A 8), .ref (A 9), .int mordering, .int u.2.2.2.2.1, .ref (A 10), .int u.2.2.2.2.2.1, .int u.2.2.2.2.2.2.1, .int u.2.2.2.2.2.2.2.1, .ref (A 11), .int u.2.2.2.2.2.2.2.2.1, .ref (A 12)])), ((A 1), .inl (cy 0, 672, .inl u.2.2.2.2.2.2.2.2.2.1)), ((A 2), .inl (cy 0, 672, .inl mkept)), ((A 3), .inl (cy 0, 672, .inl mspare)), ((A 4), .inl (cy 0, 672, .inl u.2.2.2.2.2.2.2.2.2.2.1)), ((A 5), .inl (cy 0, 5376, .inl u.2.2.2.2.2.2.2.2.2.2.2.1)), ((A 6), .inl (cy 0, 6, .inl u.2.2.2.2.2.2.2.2.2.2.2.2.1)), ((A 7), .inl (cy 0, 5, .inl u.2.2.2.2.2.2.2.2.2.2.2.2.2.1)), ((A 8), .inl (cy 0, 5, .inl u.2.2.2.2.2.2.2.2.2.2.2.2.2.2.1)), ((A 9), .inl (cy 0, 60, .inl morder)), ((A 10), .inl (cy 0, 80, .inl mtext)), ((A 11), .inl (cy 0, 200, .inl u.2.2.2.2.2.2.2.2.2.2.2.2.2.2.2.1)), ((A 12), .inl (cy 0, 672, .inl u.2.2.2.2.2.2.2.2.2.2.2.2.2.2.2.2))]) 0 0 := E
  unfold wp_X9_perform at hw
  refine g_aload_n K 0 dX9_perform_0 rfl ?_
  refine g_iconst (v := 0) K dX9_perform_1 rfl ?_
  refine g_put (ty := .int) (ws' := [((A 0), .inr (10, [.ref (A 1), .ref (A 2), .ref (A 3), .ref (A 4), .int mhasKept, .ref (A 5), .int mpasts, .ref (A 6), .int mreports, .int 0, .ref (A 7), .ref (A 8), .ref (A 9), .int mordering, .int mdetail, .ref (A 10), .int mlength, .int mspot, .int mnumber, .ref (A 11), .int mtolds, .ref (A 12)])), ((A 1), .inl (cy 0, 672, .inl mg)), ((A 2), .inl (cy 0, 672, .inl mkept)), ((A 3), .inl (cy 0, 672, .inl mspare)), ((A 4), .inl (cy 0, 672, .inl mtrial)), ((A 5), .inl (cy 0, 5376, .inl mpast)), ((A 6), .inl (cy 0, 6, .inl mreport)), ((A 7), .inl (cy 0, 5, .inl mpart)), ((A 8), .inl (cy 0, 5, .inl mcome)), ((A 9), .inl (cy 0, 60, .inl morder)), ((A 10), .inl (cy 0, 80, .inl mtext)), ((A 11), .inl (cy 0, 200, .inl mtold)), ((A 12), .inl (cy 0, 672, .inl mahead))]) K (C := RX9) (T := TX9) (N := 22) 0 9 in_X9_perform_X9 tyX9 tyX9_ok nmX9 (by decide +kernel) rfl rfl (by decide) rfl (by decide +kernel) rfl rfl (Nat.le_of_ble_eq_true rfl) rfl dX9_perform_2 ?_
  refine g_aload_n K 0 dX9_perform_5 rfl ?_
  refine g_callV (st' := fun u1 => [.int (bI u1.1)]) (ws' := fun u1 => [((A 0), .inr (10, [.ref (A 1), .ref (A 2), .ref (A 3), .ref (A 4), .int mhasKept, .ref (A 5), .int mpasts, .ref (A 6), .int mreports, .int 0, .ref (A 7), .ref (A 8), .ref (A 9), .int mordering, .int mdetail, .ref (A 10), .int mlength, .int u1.2.1, .int u1.2.2.1, .ref (A 11), .int u1.2.2.2.1, .ref (A 12)])), ((A 1), .inl (cy 0, 672, .inl mg)), ((A 2), .inl (cy 0, 672, .inl mkept)), ((A 3), .inl (cy 0, 672, .inl mspare)), ((A 4), .inl (cy 0, 672, .inl mtrial)), ((A 5), .inl (cy 0, 5376, .inl mpast)), ((A 6), .inl (cy 0, 6, .inl mreport)), ((A 7), .inl (cy 0, 5, .inl mpart)), ((A 8), .inl (cy 0, 5, .inl mcome)), ((A 9), .inl (cy 0, 60, .inl morder)), ((A 10), .inl (cy 0, 80, .inl mtext)), ((A 11), .inl (cy 0, 200, .inl u1.2.2.2.2)), ((A 12), .inl (cy 0, 672, .inl mahead))]) K hR [] [] 0 rfl rfl (c_X9_isText X.2.1 (gxD X) cy sd A mg mkept mspare mtrial mpast mreport mpart mcome morder mtext mtold mahead mhasKept mpasts mreports 0 mordering mdetail mlength mspot mnumber mtolds hw) gX9_perform_X9_isText rfl yok_X9_isText rfl rfl (by decide) rfl (Nat.le_of_ble_eq_true rfl) dX9_perform_6 [0, 1, 2, 3, 4, 5, 6, 7, 8, 9, 10, 11, 12] rfl (by decide) (fun _ => rfl) (fun _ => rfl) (fun _ => rfl) ⟨rfl, rfl⟩ (fun u1 hw => ?_)
  refine g_istore_n (lv' := [(1, .int (bI u1.1)), (0, .ref (A 0))]) K dX9_perform_9 rfl (by rw [En]; decide) rfl ?_
  refine g_aload_n K 1 dX9_perform_10 rfl ?_
  refine g_iconst (v := 0) K dX9_perform_11 rfl ?_
  refine g_put (ty := .int) (ws' := [((A 0), .inr (10, [.ref (A 1), .ref (A 2), .ref (A 3), .ref (A 4), .int mhasKept, .ref (A 5), .int mpasts, .ref (A 6), .int mreports, .int 0, .ref (A 7), .ref (A 8), .ref (A 9), .int mordering, .int mdetail, .ref (A 10), .int 0, .int u1.2.1, .int u1.2.2.1, .ref (A 11), .int u1.2.2.2.1, .ref (A 12)])), ((A 1), .inl (cy 0, 672, .inl mg)), ((A 2), .inl (cy 0, 672, .inl mkept)), ((A 3), .inl (cy 0, 672, .inl mspare)), ((A 4), .inl (cy 0, 672, .inl mtrial)), ((A 5), .inl (cy 0, 5376, .inl mpast)), ((A 6), .inl (cy 0, 6, .inl mreport)), ((A 7), .inl (cy 0, 5, .inl mpart)), ((A 8), .inl (cy 0, 5, .inl mcome)), ((A 9), .inl (cy 0, 60, .inl morder)), ((A 10), .inl (cy 0, 80, .inl mtext)), ((A 11), .inl (cy 0, 200, .inl u1.2.2.2.2)), ((A 12), .inl (cy 0, 672, .inl mahead))]) K (C := RX9) (T := TX9) (N := 22) 0 16 in_X9_perform_X9 tyX9 tyX9_ok nmX9 (by decide +kernel) rfl rfl (by decide) rfl (by decide +kernel) rfl rfl (Nat.le_of_ble_eq_true rfl) rfl dX9_perform_12 ?_
  refine g_iload_n K 0 dX9_perform_15 rfl ?_
  refine g_ifb_ne (tgt := 27) K dX9_perform_16 (by decide) (fun hc => ?_) (fun hc => ?_)
  · replace hw := hw.1 hc
    refine g_aload_n K 1 dX9_perform_27 rfl ?_
    refine g_get K (C := RX9) (T := TX9) (N := 22) 0 0 in_X9_perform_X9 (by decide +kernel) rfl rfl (by decide) rfl dX9_perform_28 ?_
    refine g_iconst (v := 0) K dX9_perform_31 rfl ?_
    refine g_aload_n K 1 dX9_perform_32 rfl ?_
    refine g_get K (C := RX9) (T := TX9) (N := 22) 0 21 in_X9_perform_X9 (by decide +kernel) rfl rfl (by decide) rfl dX9_perform_33 ?_
    refine g_iconst (v := 0) K dX9_perform_36 rfl ?_
    refine g_callS (st' := fun u2 => []) (ws' := fun u2 => [((A 0), .inr (10, [.ref (A 1), .ref (A 2), .ref (A 3), .ref (A 4), .int mhasKept, .ref (A 5), .int mpasts, .ref (A 6), .int mreports, .int 0, .ref (A 7), .ref (A 8), .ref (A 9), .int mordering, .int mdetail, .ref (A 10), .int 0, .int u1.2.1, .int u1.2.2.1, .ref (A 11), .int u1.2.2.2.1, .ref (A 12)])), ((A 1), .inl (cy 0, 672, .inl mg)), ((A 2), .inl (cy 0, 672, .inl mkept)), ((A 3), .inl (cy 0, 672, .inl mspare)), ((A 4), .inl (cy 0, 672, .inl mtrial)), ((A 5), .inl (cy 0, 5376, .inl mpast)), ((A 6), .inl (cy 0, 6, .inl mreport)), ((A 7), .inl (cy 0, 5, .inl mpart)), ((A 8), .inl (cy 0, 5, .inl mcome)), ((A 9), .inl (cy 0, 60, .inl morder)), ((A 10), .inl (cy 0, 80, .inl mtext)), ((A 11), .inl (cy 0, 200, .inl u1.2.2.2.2)), ((A 12), .inl (cy 0, 672, .inl u2))]) K hR [.ref (A 1), .int 0, .ref (A 12), .int 0] [] (c_X9_copies X.2.1 (gxD X) cy sd (A 1) (A 12) 672 mg 672 mahead 0 0 hw) gX9_perform_X9_copies rfl yok_X9_copies rfl (by decide) rfl (Nat.le_of_ble_eq_true rfl) dX9_perform_37 [1, 12] rfl (by decide) (fun _ => rfl) (fun _ => rfl) (fun _ => rfl) ⟨rfl, rfl⟩ (fun u2 hw => ?_)
    refine g_iconst (v := 0) K dX9_perform_40 rfl ?_
    refine g_istore_n (lv' := [(2, .int 0), (1, .int (bI u1.1)), (0, .ref (A 0))]) K dX9_perform_41 rfl (by rw [En]; decide) rfl ?_
    obtain ⟨fl, hw⟩ := hw
    have key : ∀ (k42_58 : Int32 → Int32 → XRow → XRow → XRow → XRow → Prop) (k42_157 : Int32 → Int32 → XRow → XRow → XRow → XRow → Prop), (∀ (v3 : Int32) (v4 : Int32) (v5 : XRow) (v6 : XRow) (v7 : XRow) (v8 : XRow), k42_58 v3 v4 v5 v6 v7 v8 → Gx X 0 0 [((A 0), .inr (10, [.ref (A 1), .ref (A 2), .ref (A 3), .ref (A 4), .int mhasKept, .ref (A 5), .int mpasts, .ref (A 6), .int mreports, .int 0, .ref (A 7), .ref (A 8), .ref (A 9), .int mordering, .int v4, .ref (A 10), .int 0, .int u1.2.1, .int u1.2.2.1, .ref (A 11), .int u1.2.2.2.1, .ref (A 12)])), ((A 1), .inl (cy 0, 672, .inl v5)), ((A 2), .inl (cy 0, 672, .inl mkept)), ((A 3), .inl (cy 0, 672, .inl mspare)), ((A 4), .inl (cy 0, 672, .inl v6)), ((A 5), .inl (cy 0, 5376, .inl mpast)), ((A 6), .inl (cy 0, 6, .inl mreport)), ((A 7), .inl (cy 0, 5, .inl v7)), ((A 8), .inl (cy 0, 5, .inl v8)), ((A 9), .inl (cy 0, 60, .inl morder)), ((A 10), .inl (cy 0, 80, .inl mtext)), ((A 11), .inl (cy 0, 200, .inl u1.2.2.2.2)), ((A 12), .inl (cy 0, 672, .inl u2))] [(2, .int v3), (1, .int (bI u1.1)), (0, .ref (A 0))] 58 []) → (∀ (v3 : Int32) (v4 : Int32) (v5 : XRow) (v6 : XRow) (v7 : XRow) (v8 : XRow), k42_157 v3 v4 v5 v6 v7 v8 → Gx X 0 0 [((A 0), .inr (10, [.ref (A 1), .ref (A 2), .ref (A 3), .ref (A 4), .int mhasKept, .ref (A 5), .int mpasts, .ref (A 6), .int mreports, .int 0, .ref (A 7), .ref (A 8), .ref (A 9), .int mordering, .int v4, .ref (A 10), .int 0, .int u1.2.1, .int u1.2.2.1, .ref (A 11), .int u1.2.2.2.1, .ref (A 12)])), ((A 1), .inl (cy 0, 672, .inl v5)), ((A 2), .inl (cy 0, 672, .inl mkept)), ((A 3), .inl (cy 0, 672, .inl mspare)), ((A 4), .inl (cy 0, 672, .inl v6)), ((A 5), .inl (cy 0, 5376, .inl mpast)), ((A 6), .inl (cy 0, 6, .inl mreport)), ((A 7), .inl (cy 0, 5, .inl v7)), ((A 8), .inl (cy 0, 5, .inl v8)), ((A 9), .inl (cy 0, 60, .inl morder)), ((A 10), .inl (cy 0, 80, .inl mtext)), ((A 11), .inl (cy 0, 200, .inl u1.2.2.2.2)), ((A 12), .inl (cy 0, 672, .inl u2))] [(2, .int v3), (1, .int (bI u1.1)), (0, .ref (A 0))] 157 []) → ∀ (n : Nat) (v3 : Int32) (v4 : Int32) (v5 : XRow) (v6 : XRow) (v7 : XRow) (v8 : XRow), wp_X9_perform_L42 u1 k42_58 k42_157 n v3 v4 v5 v6 v7 v8 → Gx X 0 0 [((A 0), .inr (10, [.ref (A 1), .ref (A 2), .ref (A 3), .ref (A 4), .int mhasKept, .ref (A 5), .int mpasts, .ref (A 6), .int mreports, .int 0, .ref (A 7), .ref (A 8), .ref (A 9), .int mordering, .int v4, .ref (A 10), .int 0, .int u1.2.1, .int u1.2.2.1, .ref (A 11), .int u1.2.2.2.1, .ref (A 12)])), ((A 1), .inl (cy 0, 672, .inl v5)), ((A 2), .inl (cy 0, 672, .inl mkept)), ((A 3), .inl (cy 0, 672, .inl mspare)), ((A 4), .inl (cy 0, 672, .inl v6)), ((A 5), .inl (cy 0, 5376, .inl mpast)), ((A 6), .inl (cy 0, 6, .inl mreport)), ((A 7), .inl (cy 0, 5, .inl v7)), ((A 8), .inl (cy 0, 5, .inl v8)), ((A 9), .inl (cy 0, 60, .inl morder)), ((A 10), .inl (cy 0, 80, .inl mtext)), ((A 11), .inl (cy 0, 200, .inl u1.2.2.2.2)), ((A 12), .inl (cy 0, 672, .inl u2))] [(2, .int v3), (1, .int (bI u1.1)), (0, .ref (A 0))] 42 [] := by
      intro k42_58 k42_157 hx58 hx157 n
      induction n with
      | zero => intro v3 v4 v5 v6 v7 v8 hw; exact hw.elim
      | succ n ih =>
        intro v3 v4 v5 v6 v7 v8 hw
        refine g_iload_n K 0 dX9_perform_42 rfl ?_
        refine g_aload_n K 2 dX9_perform_43 rfl ?_
        refine g_get K (C := RX9) (T := TX9) (N := 22) 0 20 in_X9_perform_X9 (by decide +kernel) rfl rfl (by decide) rfl dX9_perform_44 ?_
        refine g_icmp_ge (tgt := 157) K dX9_perform_47 (by decide) (fun hc => ?_) (fun hc => ?_)
        · replace hw := hw.1 hc
          exact hx157 _ _ _ _ _ _ hw
        · replace hw := hw.2 hc
          refine g_aload_n K 2 dX9_perform_50 rfl ?_
          refine g_iload_n K 0 dX9_perform_51 rfl ?_
          refine g_callV (st' := fun u9 => [.int (bI u9.1)]) (ws' := fun u9 => [((A 0), .inr (10, [.ref (A 1), .ref (A 2), .ref (A 3), .ref (A 4), .int mhasKept, .ref (A 5), .int mpasts, .ref (A 6), .int mreports, .int 0, .ref (A 7), .ref (A 8), .ref (A 9), .int mordering, .int u9.2.1, .ref (A 10), .int 0, .int u1.2.1, .int u1.2.2.1, .ref (A 11), .int u1.2.2.2.1, .ref (A 12)])), ((A 1), .inl (cy 0, 672, .inl u9.2.2.1)), ((A 2), .inl (cy 0, 672, .inl mkept)), ((A 3), .inl (cy 0, 672, .inl mspare)), ((A 4), .inl (cy 0, 672, .inl u9.2.2.2.1)), ((A 5), .inl (cy 0, 5376, .inl mpast)), ((A 6), .inl (cy 0, 6, .inl mreport)), ((A 7), .inl (cy 0, 5, .inl u9.2.2.2.2.1)), ((A 8), .inl (cy 0, 5, .inl u9.2.2.2.2.2)), ((A 9), .inl (cy 0, 60, .inl morder)), ((A 10), .inl (cy 0, 80, .inl mtext)), ((A 11), .inl (cy 0, 200, .inl u1.2.2.2.2)), ((A 12), .inl (cy 0, 672, .inl u2))]) K hR [.int v3] [] 0 rfl rfl (c_X9_does X.2.1 (gxD X) cy sd A v5 mkept mspare v6 mpast mreport v7 v8 morder mtext u1.2.2.2.2 u2 mhasKept mpasts mreports 0 mordering v4 0 u1.2.1 u1.2.2.1 u1.2.2.2.1 v3 hw) gX9_perform_X9_does rfl yok_X9_does rfl rfl (by decide) rfl (Nat.le_of_ble_eq_true rfl) dX9_perform_52 [0, 1, 2, 3, 4, 5, 6, 7, 8, 9, 10, 11, 12] rfl (by decide) (fun _ => rfl) (fun _ => rfl) (fun _ => rfl) ⟨rfl, rfl⟩ (fun u9 hw => ?_)
          refine g_ifb_ne (tgt := 151) K dX9_perform_55 (by decide) (fun hc => ?_) (fun hc => ?_)
          · replace hw := hw.1 hc
            obtain ⟨x10, ex10⟩ : ∃ z : Int32, z = v3 + 1 := ⟨_, rfl⟩
            replace hw := hw x10 ex10
            refine g_iinc (v := x10) (lv' := [(2, .int x10), (1, .int (bI u1.1)), (0, .ref (A 0))]) K 0 dX9_perform_151 rfl (by rw [ex10]; rfl) (by rw [En]; decide) rfl ?_
            refine g_goto (tgt := 42) K dX9_perform_154 (by decide) ?_
            exact ih _ _ _ _ _ _ hw
          · replace hw := hw.2 hc
            exact hx58 _ _ _ _ _ _ hw
    refine key _ _ (fun v11 v12 v13 v14 v15 v16 hw => ?_) (fun v30 v31 v32 v33 v34 v35 hw => ?_) fl _ _ _ _ _ _ hw
    · refine g_aload_n K 2 dX9_perform_58 rfl ?_
      refine g_get K (C := RX9) (T := TX9) (N := 22) 0 19 in_X9_perform_X9 (by decide +kernel) rfl rfl (by decide) rfl dX9_perform_59 ?_
      refine g_iconst (v := 5) K dX9_perform_62 rfl ?_
      refine g_iload_n K 0 dX9_perform_63 rfl ?_
      refine g_imul K dX9_perform_64 ?_
      refine g_iconst (v := 1) K dX9_perform_65 rfl ?_
      refine g_iadd K dX9_perform_66 ?_
      refine g_iald K 11 0 rfl rfl hw.1 dX9_perform_67 ?_
      replace hw := hw.2
      refine g_topi (fun x17 ex17 => ?_)
      replace hw := hw x17 ex17
      refine g_istore_n (lv' := [(3, .int x17), (2, .int v11), (1, .int (bI u1.1)), (0, .ref (A 0))]) K dX9_perform_68 rfl (by rw [En]; decide) rfl ?_
      refine g_aload_n K 3 dX9_perform_69 rfl ?_
      refine g_get K (C := RX9) (T := TX9) (N := 22) 0 19 in_X9_perform_X9 (by decide +kernel) rfl rfl (by decide) rfl dX9_perform_70 ?_
      refine g_iconst (v := 5) K dX9_perform_73 rfl ?_
      refine g_iload_n K 1 dX9_perform_74 rfl ?_
      refine g_imul K dX9_perform_75 ?_
      refine g_iald K 11 0 rfl rfl hw.1 dX9_perform_76 ?_
      replace hw := hw.2
      refine g_bipush (v := 115) K dX9_perform_77 rfl ?_
      refine g_icmp_ne (tgt := 132) K dX9_perform_79 (by decide) (fun hc => ?_) (fun hc => ?_)
      · replace hw := hw.2 hc
        refine g_aload_n K 3 dX9_perform_132 rfl ?_
        refine g_get K (C := RX9) (T := TX9) (N := 22) 0 21 in_X9_perform_X9 (by decide +kernel) rfl rfl (by decide) rfl dX9_perform_133 ?_
        refine g_iconst (v := 0) K dX9_perform_136 rfl ?_
        refine g_aload_n K 3 dX9_perform_137 rfl ?_
        refine g_get K (C := RX9) (T := TX9) (N := 22) 0 0 in_X9_perform_X9 (by decide +kernel) rfl rfl (by decide) rfl dX9_perform_138 ?_
        refine g_iconst (v := 0) K dX9_perform_141 rfl ?_
        refine g_callS (st' := fun u18 => []) (ws' := fun u18 => [((A 0), .inr (10, [.ref (A 1), .ref (A 2), .ref (A 3), .ref (A 4), .int mhasKept, .ref (A 5), .int mpasts, .ref (A 6), .int mreports, .int 0, .ref (A 7), .ref (A 8), .ref (A 9), .int mordering, .int v12, .ref (A 10), .int 0, .int u1.2.1, .int u1.2.2.1, .ref (A 11), .int u1.2.2.2.1, .ref (A 12)])), ((A 1), .inl (cy 0, 672, .inl u18)), ((A 2), .inl (cy 0, 672, .inl mkept)), ((A 3), .inl (cy 0, 672, .inl mspare)), ((A 4), .inl (cy 0, 672, .inl v14)), ((A 5), .inl (cy 0, 5376, .inl mpast)), ((A 6), .inl (cy 0, 6, .inl mreport)), ((A 7), .inl (cy 0, 5, .inl v15)), ((A 8), .inl (cy 0, 5, .inl v16)), ((A 9), .inl (cy 0, 60, .inl morder)), ((A 10), .inl (cy 0, 80, .inl mtext)), ((A 11), .inl (cy 0, 200, .inl u1.2.2.2.2)), ((A 12), .inl (cy 0, 672, .inl u2))]) K hR [.ref (A 12), .int 0, .ref (A 1), .int 0] [] (c_X9_copies X.2.1 (gxD X) cy sd (A 12) (A 1) 672 u2 672 v13 0 0 hw) gX9_perform_X9_copies rfl yok_X9_copies rfl (by decide) rfl (Nat.le_of_ble_eq_true rfl) dX9_perform_142 [12, 1] rfl (by decide) (fun _ => rfl) (fun _ => rfl) (fun _ => rfl) ⟨rfl, rfl⟩ (fun u18 hw => ?_)
        refine g_aload_n K 3 dX9_perform_145 rfl ?_
        refine g_iconst (v := 1) K dX9_perform_146 rfl ?_
        refine g_callV (st' := fun u19 => [.int u19.1]) (ws' := fun u19 => [((A 0), .inr (10, [.ref (A 1), .ref (A 2), .ref (A 3), .ref (A 4), .int mhasKept, .ref (A 5), .int mpasts, .ref (A 6), .int mreports, .int u19.2, .ref (A 7), .ref (A 8), .ref (A 9), .int mordering, .int v12, .ref (A 10), .int 0, .int u1.2.1, .int u1.2.2.1, .ref (A 11), .int u1.2.2.2.1, .ref (A 12)])), ((A 1), .inl (cy 0, 672, .inl u18)), ((A 2), .inl (cy 0, 672, .inl mkept)), ((A 3), .inl (cy 0, 672, .inl mspare)), ((A 4), .inl (cy 0, 672, .inl v14)), ((A 5), .inl (cy 0, 5376, .inl mpast)), ((A 6), .inl (cy 0, 6, .inl mreport)), ((A 7), .inl (cy 0, 5, .inl v15)), ((A 8), .inl (cy 0, 5, .inl v16)), ((A 9), .inl (cy 0, 60, .inl morder)), ((A 10), .inl (cy 0, 80, .inl mtext)), ((A 11), .inl (cy 0, 200, .inl u1.2.2.2.2)), ((A 12), .inl (cy 0, 672, .inl u2))]) K hR [.int 1] [] 0 rfl rfl (c_X9_fails X.2.1 (gxD X) cy sd A u18 mkept mspare v14 mpast mreport v15 v16 morder mtext u1.2.2.2.2 u2 mhasKept mpasts mreports 0 mordering v12 0 u1.2.1 u1.2.2.1 u1.2.2.2.1 1 hw) gX9_perform_X9_fails rfl yok_X9_fails rfl rfl (by decide) rfl (Nat.le_of_ble_eq_true rfl) dX9_perform_147 [0, 1, 2, 3, 4, 5, 6, 7, 8, 9, 10, 11, 12] rfl (by decide) (fun _ => rfl) (fun _ => rfl) (fun _ => rfl) ⟨rfl, rfl⟩ (fun u19 hw => ?_)
        exact g_zret K E Er (u19.1, mpasts, mreports, u19.2, v12, 0, u1.2.1, u1.2.2.1, u1.2.2.2.1, u18, v14, mpast, mreport, v15, v16, u1.2.2.2.2, u2) hw rfl rfl rfl (Nat.le_refl _) (Nat.le_refl _) dX9_perform_150
      · replace hw := hw.1 hc
        refine g_aload_n K 3 dX9_perform_82 rfl ?_
        refine g_iload_n K 0 dX9_perform_83 rfl ?_
        refine g_callVr (st' := fun u20 => [.int (bI u20)]) K hR [.int x17] [] 0 rfl rfl (c_X9_isBale X.2.1 (gxD X) cy sd A v13 mkept mspare v14 mpast mreport v15 v16 morder mtext u1.2.2.2.2 u2 mhasKept mpasts mreports 0 mordering v12 0 u1.2.1 u1.2.2.1 u1.2.2.2.1 x17 hw) gX9_perform_X9_isBale rfl yok_X9_isBale rfl rfl (by decide) rfl (Nat.le_of_ble_eq_true rfl) dX9_perform_84 [0, 1, 2, 3, 4, 5, 6, 7, 8, 9, 10, 11, 12] rfl (by decide) (fun _ => rfl) ⟨rfl, rfl⟩ (fun u20 hw => ?_)
        refine g_ifb_eq (tgt := 132) K dX9_perform_87 (by decide) (fun hc => ?_) (fun hc => ?_)
        · replace hw := hw.2 hc
          refine g_aload_n K 3 dX9_perform_132 rfl ?_
          refine g_get K (C := RX9) (T := TX9) (N := 22) 0 21 in_X9_perform_X9 (by decide +kernel) rfl rfl (by decide) rfl dX9_perform_133 ?_
          refine g_iconst (v := 0) K dX9_perform_136 rfl ?_
          refine g_aload_n K 3 dX9_perform_137 rfl ?_
          refine g_get K (C := RX9) (T := TX9) (N := 22) 0 0 in_X9_perform_X9 (by decide +kernel) rfl rfl (by decide) rfl dX9_perform_138 ?_
          refine g_iconst (v := 0) K dX9_perform_141 rfl ?_
          refine g_callS (st' := fun u21 => []) (ws' := fun u21 => [((A 0), .inr (10, [.ref (A 1), .ref (A 2), .ref (A 3), .ref (A 4), .int mhasKept, .ref (A 5), .int mpasts, .ref (A 6), .int mreports, .int 0, .ref (A 7), .ref (A 8), .ref (A 9), .int mordering, .int v12, .ref (A 10), .int 0, .int u1.2.1, .int u1.2.2.1, .ref (A 11), .int u1.2.2.2.1, .ref (A 12)])), ((A 1), .inl (cy 0, 672, .inl u21)), ((A 2), .inl (cy 0, 672, .inl mkept)), ((A 3), .inl (cy 0, 672, .inl mspare)), ((A 4), .inl (cy 0, 672, .inl v14)), ((A 5), .inl (cy 0, 5376, .inl mpast)), ((A 6), .inl (cy 0, 6, .inl mreport)), ((A 7), .inl (cy 0, 5, .inl v15)), ((A 8), .inl (cy 0, 5, .inl v16)), ((A 9), .inl (cy 0, 60, .inl morder)), ((A 10), .inl (cy 0, 80, .inl mtext)), ((A 11), .inl (cy 0, 200, .inl u1.2.2.2.2)), ((A 12), .inl (cy 0, 672, .inl u2))]) K hR [.ref (A 12), .int 0, .ref (A 1), .int 0] [] (c_X9_copies X.2.1 (gxD X) cy sd (A 12) (A 1) 672 u2 672 v13 0 0 hw) gX9_perform_X9_copies rfl yok_X9_copies rfl (by decide) rfl (Nat.le_of_ble_eq_true rfl) dX9_perform_142 [12, 1] rfl (by decide) (fun _ => rfl) (fun _ => rfl) (fun _ => rfl) ⟨rfl, rfl⟩ (fun u21 hw => ?_)
          refine g_aload_n K 3 dX9_perform_145 rfl ?_
          refine g_iconst (v := 1) K dX9_perform_146 rfl ?_
          refine g_callV (st' := fun u22 => [.int u22.1]) (ws' := fun u22 => [((A 0), .inr (10, [.ref (A 1), .ref (A 2), .ref (A 3), .ref (A 4), .int mhasKept, .ref (A 5), .int mpasts, .ref (A 6), .int mreports, .int u22.2, .ref (A 7), .ref (A 8), .ref (A 9), .int mordering, .int v12, .ref (A 10), .int 0, .int u1.2.1, .int u1.2.2.1, .ref (A 11), .int u1.2.2.2.1, .ref (A 12)])), ((A 1), .inl (cy 0, 672, .inl u21)), ((A 2), .inl (cy 0, 672, .inl mkept)), ((A 3), .inl (cy 0, 672, .inl mspare)), ((A 4), .inl (cy 0, 672, .inl v14)), ((A 5), .inl (cy 0, 5376, .inl mpast)), ((A 6), .inl (cy 0, 6, .inl mreport)), ((A 7), .inl (cy 0, 5, .inl v15)), ((A 8), .inl (cy 0, 5, .inl v16)), ((A 9), .inl (cy 0, 60, .inl morder)), ((A 10), .inl (cy 0, 80, .inl mtext)), ((A 11), .inl (cy 0, 200, .inl u1.2.2.2.2)), ((A 12), .inl (cy 0, 672, .inl u2))]) K hR [.int 1] [] 0 rfl rfl (c_X9_fails X.2.1 (gxD X) cy sd A u21 mkept mspare v14 mpast mreport v15 v16 morder mtext u1.2.2.2.2 u2 mhasKept mpasts mreports 0 mordering v12 0 u1.2.1 u1.2.2.1 u1.2.2.2.1 1 hw) gX9_perform_X9_fails rfl yok_X9_fails rfl rfl (by decide) rfl (Nat.le_of_ble_eq_true rfl) dX9_perform_147 [0, 1, 2, 3, 4, 5, 6, 7, 8, 9, 10, 11, 12] rfl (by decide) (fun _ => rfl) (fun _ => rfl) (fun _ => rfl) ⟨rfl, rfl⟩ (fun u22 hw => ?_)
          exact g_zret K E Er (u22.1, mpasts, mreports, u22.2, v12, 0, u1.2.1, u1.2.2.1, u1.2.2.2.1, u21, v14, mpast, mreport, v15, v16, u1.2.2.2.2, u2) hw rfl rfl rfl (Nat.le_refl _) (Nat.le_refl _) dX9_perform_150
        · replace hw := hw.1 hc
          refine g_aload_n K 3 dX9_perform_90 rfl ?_
          refine g_iload_n K 0 dX9_perform_91 rfl ?_
          refine g_callV (st' := fun u23 => [.int u23.1]) (ws' := fun u23 => [((A 0), .inr (10, [.ref (A 1), .ref (A 2), .ref (A 3), .ref (A 4), .int mhasKept, .ref (A 5), .int mpasts, .ref (A 6), .int mreports, .int 0, .ref (A 7), .ref (A 8), .ref (A 9), .int mordering, .int u23.2, .ref (A 10), .int 0, .int u1.2.1, .int u1.2.2.1, .ref (A 11), .int u1.2.2.2.1, .ref (A 12)])), ((A 1), .inl (cy 0, 672, .inl v13)), ((A 2), .inl (cy 0, 672, .inl mkept)), ((A 3), .inl (cy 0, 672, .inl mspare)), ((A 4), .inl (cy 0, 672, .inl v14)), ((A 5), .inl (cy 0, 5376, .inl mpast)), ((A 6), .inl (cy 0, 6, .inl mreport)), ((A 7), .inl (cy 0, 5, .inl v15)), ((A 8), .inl (cy 0, 5, .inl v16)), ((A 9), .inl (cy 0, 60, .inl morder)), ((A 10), .inl (cy 0, 80, .inl mtext)), ((A 11), .inl (cy 0, 200, .inl u1.2.2.2.2)), ((A 12), .inl (cy 0, 672, .inl u2))]) K hR [.int x17] [] 0 rfl rfl (c_X9_against X.2.1 (gxD X) cy sd A v13 mkept mspare v14 mpast mreport v15 v16 morder mtext u1.2.2.2.2 u2 mhasKept mpasts mreports 0 mordering v12 0 u1.2.1 u1.2.2.1 u1.2.2.2.1 x17 hw) gX9_perform_X9_against rfl yok_X9_against rfl rfl (by decide) rfl (Nat.le_of_ble_eq_true rfl) dX9_perform_92 [0, 1, 2, 3, 4, 5, 6, 7, 8, 9, 10, 11, 12] rfl (by decide) (fun _ => rfl) (fun _ => rfl) (fun _ => rfl) ⟨rfl, rfl⟩ (fun u23 hw => ?_)
          refine g_istore (lv' := [(4, .int u23.1), (3, .int x17), (2, .int v11), (1, .int (bI u1.1)), (0, .ref (A 0))]) K dX9_perform_95 (by rw [En]; decide) rfl ?_
          refine g_aload_n K 4 dX9_perform_97 rfl ?_
          refine g_iconst (v := 0) K dX9_perform_98 rfl ?_
          refine g_bipush (v := 9) K dX9_perform_99 rfl ?_
          refine g_iload_n K 2 dX9_perform_101 rfl ?_
          refine g_callV (st' := fun u24 => []) (ws' := fun u24 => [((A 0), .inr (10, [.ref (A 1), .ref (A 2), .ref (A 3), .ref (A 4), .int mhasKept, .ref (A 5), .int mpasts, .ref (A 6), .int u24.1, .int 0, .ref (A 7), .ref (A 8), .ref (A 9), .int mordering, .int u23.2, .ref (A 10), .int 0, .int u1.2.1, .int u1.2.2.1, .ref (A 11), .int u1.2.2.2.1, .ref (A 12)])), ((A 1), .inl (cy 0, 672, .inl v13)), ((A 2), .inl (cy 0, 672, .inl mkept)), ((A 3), .inl (cy 0, 672, .inl mspare)), ((A 4), .inl (cy 0, 672, .inl v14)), ((A 5), .inl (cy 0, 5376, .inl mpast)), ((A 6), .inl (cy 0, 6, .inl u24.2)), ((A 7), .inl (cy 0, 5, .inl v15)), ((A 8), .inl (cy 0, 5, .inl v16)), ((A 9), .inl (cy 0, 60, .inl morder)), ((A 10), .inl (cy 0, 80, .inl mtext)), ((A 11), .inl (cy 0, 200, .inl u1.2.2.2.2)), ((A 12), .inl (cy 0, 672, .inl u2))]) K hR [.int 0, .int 9, .int v11] [] 0 rfl rfl (c_X9_reports X.2.1 (gxD X) cy sd A v13 mkept mspare v14 mpast mreport v15 v16 morder mtext u1.2.2.2.2 u2 mhasKept mpasts mreports 0 mordering u23.2 0 u1.2.1 u1.2.2.1 u1.2.2.2.1 0 9 v11 hw) gX9_perform_X9_reports rfl yok_X9_reports rfl rfl (by decide) rfl (Nat.le_of_ble_eq_true rfl) dX9_perform_102 [0, 1, 2, 3, 4, 5, 6, 7, 8, 9, 10, 11, 12] rfl (by decide) (fun _ => rfl) (fun _ => rfl) (fun _ => rfl) ⟨rfl, rfl⟩ (fun u24 hw => ?_)
          refine g_aload_n K 4 dX9_perform_105 rfl ?_
          refine g_iconst (v := 1) K dX9_perform_106 rfl ?_
          refine g_iload_n K 1 dX9_perform_107 rfl ?_
          refine g_aload_n K 4 dX9_perform_108 rfl ?_
          refine g_get K (C := RX9) (T := TX9) (N := 22) 0 0 in_X9_perform_X9 (by decide +kernel) rfl rfl (by decide) rfl dX9_perform_109 ?_
          refine g_iload_n K 1 dX9_perform_112 rfl ?_
          refine g_iconst (v := 5) K dX9_perform_113 rfl ?_
          refine g_callSr (st' := fun u25 => [.int u25, .ref (A 1), .int x17, .int 1, .ref (A 0)]) K hR [.int x17, .int 5] [.ref (A 1), .int x17, .int 1, .ref (A 0)] (c_X9_baleAt X.2.1 (gxD X) cy sd x17 5 hw) gX9_perform_X9_baleAt rfl yok_X9_baleAt rfl (by decide) rfl (Nat.le_of_ble_eq_true rfl) dX9_perform_114 [] rfl (by decide) (fun _ => rfl) ⟨rfl, rfl⟩ (fun u25 hw => ?_)
          refine g_iald K 1 0 rfl rfl hw.1 dX9_perform_117 ?_
          replace hw := hw.2
          refine g_callV (st' := fun u26 => []) (ws' := fun u26 => [((A 0), .inr (10, [.ref (A 1), .ref (A 2), .ref (A 3), .ref (A 4), .int mhasKept, .ref (A 5), .int mpasts, .ref (A 6), .int u26.1, .int 0, .ref (A 7), .ref (A 8), .ref (A 9), .int mordering, .int u23.2, .ref (A 10), .int 0, .int u1.2.1, .int u1.2.2.1, .ref (A 11), .int u1.2.2.2.1, .ref (A 12)])), ((A 1), .inl (cy 0, 672, .inl v13)), ((A 2), .inl (cy 0, 672, .inl mkept)), ((A 3), .inl (cy 0, 672, .inl mspare)), ((A 4), .inl (cy 0, 672, .inl v14)), ((A 5), .inl (cy 0, 5376, .inl mpast)), ((A 6), .inl (cy 0, 6, .inl u26.2)), ((A 7), .inl (cy 0, 5, .inl v15)), ((A 8), .inl (cy 0, 5, .inl v16)), ((A 9), .inl (cy 0, 60, .inl morder)), ((A 10), .inl (cy 0, 80, .inl mtext)), ((A 11), .inl (cy 0, 200, .inl u1.2.2.2.2)), ((A 12), .inl (cy 0, 672, .inl u2))]) K hR [.int 1, .int x17, .int (v13 (u25).toNatClampNeg)] [] 0 rfl rfl (c_X9_reports X.2.1 (gxD X) cy sd A v13 mkept mspare v14 mpast u24.2 v15 v16 morder mtext u1.2.2.2.2 u2 mhasKept mpasts u24.1 0 mordering u23.2 0 u1.2.1 u1.2.2.1 u1.2.2.2.1 1 x17 (v13 (u25).toNatClampNeg) hw) gX9_perform_X9_reports rfl yok_X9_reports rfl rfl (by decide) rfl (Nat.le_of_ble_eq_true rfl) dX9_perform_118 [0, 1, 2, 3, 4, 5, 6, 7, 8, 9, 10, 11, 12] rfl (by decide) (fun _ => rfl) (fun _ => rfl) (fun _ => rfl) ⟨rfl, rfl⟩ (fun u26 hw => ?_)
          refine g_aload_n K 4 dX9_perform_121 rfl ?_
          refine g_iconst (v := 2) K dX9_perform_122 rfl ?_
          refine g_iload K 0 dX9_perform_123 rfl ?_
          refine g_aload_n K 4 dX9_perform_125 rfl ?_
          refine g_get K (C := RX9) (T := TX9) (N := 22) 0 14 in_X9_perform_X9 (by decide +kernel) rfl rfl (by decide) rfl dX9_perform_126 ?_
          refine g_callV (st' := fun u27 => []) (ws' := fun u27 => [((A 0), .inr (10, [.ref (A 1), .ref (A 2), .ref (A 3), .ref (A 4), .int mhasKept, .ref (A 5), .int mpasts, .ref (A 6), .int u27.1, .int 0, .ref (A 7), .ref (A 8), .ref (A 9), .int mordering, .int u23.2, .ref (A 10), .int 0, .int u1.2.1, .int u1.2.2.1, .ref (A 11), .int u1.2.2.2.1, .ref (A 12)])), ((A 1), .inl (cy 0, 672, .inl v13)), ((A 2), .inl (cy 0, 672, .inl mkept)), ((A 3), .inl (cy 0, 672, .inl mspare)), ((A 4), .inl (cy 0, 672, .inl v14)), ((A 5), .inl (cy 0, 5376, .inl mpast)), ((A 6), .inl (cy 0, 6, .inl u27.2)), ((A 7), .inl (cy 0, 5, .inl v15)), ((A 8), .inl (cy 0, 5, .inl v16)), ((A 9), .inl (cy 0, 60, .inl morder)), ((A 10), .inl (cy 0, 80, .inl mtext)), ((A 11), .inl (cy 0, 200, .inl u1.2.2.2.2)), ((A 12), .inl (cy 0, 672, .inl u2))]) K hR [.int 2, .int u23.1, .int u23.2] [] 0 rfl rfl (c_X9_reports X.2.1 (gxD X) cy sd A v13 mkept mspare v14 mpast u26.2 v15 v16 morder mtext u1.2.2.2.2 u2 mhasKept mpasts u26.1 0 mordering u23.2 0 u1.2.1 u1.2.2.1 u1.2.2.2.1 2 u23.1 u23.2 hw) gX9_perform_X9_reports rfl yok_X9_reports rfl rfl (by decide) rfl (Nat.le_of_ble_eq_true rfl) dX9_perform_129 [0, 1, 2, 3, 4, 5, 6, 7, 8, 9, 10, 11, 12] rfl (by decide) (fun _ => rfl) (fun _ => rfl) (fun _ => rfl) ⟨rfl, rfl⟩ (fun u27 hw => ?_)
          refine g_aload_n K 4 dX9_perform_132 rfl ?_
          refine g_get K (C := RX9) (T := TX9) (N := 22) 0 21 in_X9_perform_X9 (by decide +kernel) rfl rfl (by decide) rfl dX9_perform_133 ?_
          refine g_iconst (v := 0) K dX9_perform_136 rfl ?_
          refine g_aload_n K 4 dX9_perform_137 rfl ?_
          refine g_get K (C := RX9) (T := TX9) (N := 22) 0 0 in_X9_perform_X9 (by decide +kernel) rfl rfl (by decide) rfl dX9_perform_138 ?_
          refine g_iconst (v := 0) K dX9_perform_141 rfl ?_
          refine g_callS (st' := fun u28 => []) (ws' := fun u28 => [((A 0), .inr (10, [.ref (A 1), .ref (A 2), .ref (A 3), .ref (A 4), .int mhasKept, .ref (A 5), .int mpasts, .ref (A 6), .int u27.1, .int 0, .ref (A 7), .ref (A 8), .ref (A 9), .int mordering, .int u23.2, .ref (A 10), .int 0, .int u1.2.1, .int u1.2.2.1, .ref (A 11), .int u1.2.2.2.1, .ref (A 12)])), ((A 1), .inl (cy 0, 672, .inl u28)), ((A 2), .inl (cy 0, 672, .inl mkept)), ((A 3), .inl (cy 0, 672, .inl mspare)), ((A 4), .inl (cy 0, 672, .inl v14)), ((A 5), .inl (cy 0, 5376, .inl mpast)), ((A 6), .inl (cy 0, 6, .inl u27.2)), ((A 7), .inl (cy 0, 5, .inl v15)), ((A 8), .inl (cy 0, 5, .inl v16)), ((A 9), .inl (cy 0, 60, .inl morder)), ((A 10), .inl (cy 0, 80, .inl mtext)), ((A 11), .inl (cy 0, 200, .inl u1.2.2.2.2)), ((A 12), .inl (cy 0, 672, .inl u2))]) K hR [.ref (A 12), .int 0, .ref (A 1), .int 0] [] (c_X9_copies X.2.1 (gxD X) cy sd (A 12) (A 1) 672 u2 672 v13 0 0 hw) gX9_perform_X9_copies rfl yok_X9_copies rfl (by decide) rfl (Nat.le_of_ble_eq_true rfl) dX9_perform_142 [12, 1] rfl (by decide) (fun _ => rfl) (fun _ => rfl) (fun _ => rfl) ⟨rfl, rfl⟩ (fun u28 hw => ?_)
          refine g_aload_n K 4 dX9_perform_145 rfl ?_
          refine g_iconst (v := 1) K dX9_perform_146 rfl ?_
          refine g_callV (st' := fun u29 => [.int u29.1]) (ws' := fun u29 => [((A 0), .inr (10, [.ref (A 1), .ref (A 2), .ref (A 3), .ref (A 4), .int mhasKept, .ref (A 5), .int mpasts, .ref (A 6), .int u27.1, .int u29.2, .ref (A 7), .ref (A 8), .ref (A 9), .int mordering, .int u23.2, .ref (A 10), .int 0, .int u1.2.1, .int u1.2.2.1, .ref (A 11), .int u1.2.2.2.1, .ref (A 12)])), ((A 1), .inl (cy 0, 672, .inl u28)), ((A 2), .inl (cy 0, 672, .inl mkept)), ((A 3), .inl (cy 0, 672, .inl mspare)), ((A 4), .inl (cy 0, 672, .inl v14)), ((A 5), .inl (cy 0, 5376, .inl mpast)), ((A 6), .inl (cy 0, 6, .inl u27.2)), ((A 7), .inl (cy 0, 5, .inl v15)), ((A 8), .inl (cy 0, 5, .inl v16)), ((A 9), .inl (cy 0, 60, .inl morder)), ((A 10), .inl (cy 0, 80, .inl mtext)), ((A 11), .inl (cy 0, 200, .inl u1.2.2.2.2)), ((A 12), .inl (cy 0, 672, .inl u2))]) K hR [.int 1] [] 0 rfl rfl (c_X9_fails X.2.1 (gxD X) cy sd A u28 mkept mspare v14 mpast u27.2 v15 v16 morder mtext u1.2.2.2.2 u2 mhasKept mpasts u27.1 0 mordering u23.2 0 u1.2.1 u1.2.2.1 u1.2.2.2.1 1 hw) gX9_perform_X9_fails rfl yok_X9_fails rfl rfl (by decide) rfl (Nat.le_of_ble_eq_true rfl) dX9_perform_147 [0, 1, 2, 3, 4, 5, 6, 7, 8, 9, 10, 11, 12] rfl (by decide) (fun _ => rfl) (fun _ => rfl) (fun _ => rfl) ⟨rfl, rfl⟩ (fun u29 hw => ?_)
          exact g_zret K E Er (u29.1, mpasts, u27.1, u29.2, u23.2, 0, u1.2.1, u1.2.2.1, u1.2.2.2.1, u28, v14, mpast, u27.2, v15, v16, u1.2.2.2.2, u2) hw rfl rfl rfl (Nat.le_refl _) (Nat.le_refl _) dX9_perform_150
    · refine g_aload_n K 2 dX9_perform_157 rfl ?_
      refine g_aload_n K 2 dX9_perform_158 rfl ?_
      refine g_get K (C := RX9) (T := TX9) (N := 22) 0 21 in_X9_perform_X9 (by decide +kernel) rfl rfl (by decide) rfl dX9_perform_159 ?_
      refine g_callV (st' := fun u36 => []) (ws' := fun u36 => [((A 0), .inr (10, [.ref (A 1), .ref (A 2), .ref (A 3), .ref (A 4), .int mhasKept, .ref (A 5), .int u36.1, .ref (A 6), .int mreports, .int 0, .ref (A 7), .ref (A 8), .ref (A 9), .int mordering, .int v31, .ref (A 10), .int 0, .int u1.2.1, .int u1.2.2.1, .ref (A 11), .int u1.2.2.2.1, .ref (A 12)])), ((A 1), .inl (cy 0, 672, .inl v32)), ((A 2), .inl (cy 0, 672, .inl mkept)), ((A 3), .inl (cy 0, 672, .inl mspare)), ((A 4), .inl (cy 0, 672, .inl v33)), ((A 5), .inl (cy 0, 5376, .inl u36.2)), ((A 6), .inl (cy 0, 6, .inl mreport)), ((A 7), .inl (cy 0, 5, .inl v34)), ((A 8), .inl (cy 0, 5, .inl v35)), ((A 9), .inl (cy 0, 60, .inl morder)), ((A 10), .inl (cy 0, 80, .inl mtext)), ((A 11), .inl (cy 0, 200, .inl u1.2.2.2.2)), ((A 12), .inl (cy 0, 672, .inl u2))]) K hR [.ref (A 12)] [] 0 rfl rfl (c_X9_changes_o12 X.2.1 (gxD X) cy sd A v32 mkept mspare v33 mpast mreport v34 v35 morder mtext u1.2.2.2.2 u2 mhasKept mpasts mreports 0 mordering v31 0 u1.2.1 u1.2.2.1 u1.2.2.2.1 hw) gX9_perform_X9_changes rfl yok_X9_changes rfl rfl (by decide) rfl (Nat.le_of_ble_eq_true rfl) dX9_perform_162 [0, 1, 2, 3, 4, 5, 6, 7, 8, 9, 10, 11, 12] rfl (by decide) (fun _ => rfl) (fun _ => rfl) (fun _ => rfl) ⟨rfl, rfl⟩ (fun u36 hw => ?_)
      refine g_aload_n K 2 dX9_perform_165 rfl ?_
      refine g_get K (C := RX9) (T := TX9) (N := 22) 0 20 in_X9_perform_X9 (by decide +kernel) rfl rfl (by decide) rfl dX9_perform_166 ?_
      exact g_zret K E Er (u1.2.2.2.1, u36.1, mreports, 0, v31, 0, u1.2.1, u1.2.2.1, u1.2.2.2.1, v32, v33, u36.2, mreport, v34, v35, u1.2.2.2.2, u2) hw rfl rfl rfl (Nat.le_refl _) (Nat.le_refl _) dX9_perform_169
  · replace hw := hw.2 hc
    refine g_bipush (v := (-100)) K dX9_perform_19 rfl ?_
    refine g_aload_n K 1 dX9_perform_21 rfl ?_
    refine g_get K (C := RX9) (T := TX9) (N := 22) 0 17 in_X9_perform_X9 (by decide +kernel) rfl rfl (by decide) rfl dX9_perform_22 ?_
    refine g_isub K dX9_perform_25 ?_
    exact g_zret K E Er ((-100) - u1.2.1, mpasts, mreports, 0, mdetail, 0, u1.2.1, u1.2.2.1, u1.2.2.2.1, mg, mtrial, mpast, mreport, mpart, mcome, u1.2.2.2.2, mahead) hw rfl rfl rfl (Nat.le_refl _) (Nat.le_refl _) dX9_perform_26
