theorem yok_X9_greatest : yOk yX9_greatest 4 := by decide +kernel
theorem yok_X9_takes : yOk yX9_takes 2 := by decide +kernel
theorem yok_X9_samples : yOk yX9_samples 2 := by decide +kernel
theorem yok_X9_gradeBy : yOk yX9_gradeBy 1 := by decide +kernel
theorem yok_X9_grade : yOk yX9_grade 1 := by decide +kernel
theorem yok_X9_bales : yOk yX9_bales 1 := by decide +kernel
theorem yok_X9_passes : yOk yX9_passes 0 := by decide +kernel
theorem yok_X9_goesOn : yOk yX9_goesOn 0 := by decide +kernel
theorem yok_X9_againstRun : yOk yX9_againstRun 1 := by decide +kernel
theorem yok_X9_runs : yOk yX9_runs 1 := by decide +kernel
theorem yok_X9_run : yOk yX9_run 1 := by decide +kernel
theorem yok_X9_isSettled : yOk yX9_isSettled 0 := by decide +kernel
theorem yok_X9_settlesAfter : yOk yX9_settlesAfter 0 := by decide +kernel
def wp_X9_greatest_L6 (mg : XRow) (p0 : Int32) (p1 : Int32) (p2 : Int32) (p3 : Int32) (k6_66 : Int32 → Int32 → Prop) : Nat → Int32 → Int32 → Prop
  | 0, _, _ => False
  | fu + 1, v1, v2 => (5 ≤ v1 → (k6_66 v1 v2)) ∧ (¬ 5 ≤ v1 → ((((p3 >>> (v1 &&& 31)) &&& 1) = 0 → ((v2 < 0 → (∀ x4 : Int32, x4 = v1 + 1 → (wp_X9_greatest_L6 mg p0 p1 p2 p3 k6_66 fu x4 v1))) ∧ (¬ v2 < 0 → (vp_in (p0 + v1) 672 ∧ ((¬ p2 = 0) ∧ (vp_in (p0 + v2) 672 ∧ ((¬ p2 = 0) ∧ (((((mg (p0 + v1).toNatClampNeg) * p1) - ((mg (p0 + v1).toNatClampNeg) * p1) / p2 * p2) ≤ (((mg (p0 + v2).toNatClampNeg) * p1) - ((mg (p0 + v2).toNatClampNeg) * p1) / p2 * p2) → (∀ x5 : Int32, x5 = v1 + 1 → (wp_X9_greatest_L6 mg p0 p1 p2 p3 k6_66 fu x5 v2))) ∧ (¬ (((mg (p0 + v1).toNatClampNeg) * p1) - ((mg (p0 + v1).toNatClampNeg) * p1) / p2 * p2) ≤ (((mg (p0 + v2).toNatClampNeg) * p1) - ((mg (p0 + v2).toNatClampNeg) * p1) / p2 * p2) → (∀ x6 : Int32, x6 = v1 + 1 → (wp_X9_greatest_L6 mg p0 p1 p2 p3 k6_66 fu x6 v1))))))))))) ∧ (¬ ((p3 >>> (v1 &&& 31)) &&& 1) = 0 → (∀ x3 : Int32, x3 = v1 + 1 → (wp_X9_greatest_L6 mg p0 p1 p2 p3 k6_66 fu x3 v2)))))
def wp_X9_greatest (mg : XRow) (p0 : Int32) (p1 : Int32) (p2 : Int32) (p3 : Int32) (post : Int32 → Prop) : Prop := ∃ fl, wp_X9_greatest_L6 mg p0 p1 p2 p3 (fun (v7 : Int32) (v8 : Int32) => post v8) fl 0 (-1)
theorem in_X9_greatest_X9 : ∀ w ∈ u_ws RX9 TX9 22, w ∈ wsX9_greatest := by decide +kernel
set_option maxRecDepth 100000 in
set_option maxHeartbeats 4000000 in
theorem c_X9_greatest (l : Launch) (D : va_G) (cy : Nat → ClassId) (sd : xSd) (A : Nat → Nat) (mg : XRow) (mkept : XRow) (mspare : XRow) (mtrial : XRow) (mpast : XRow) (mreport : XRow) (mpart : XRow) (mcome : XRow) (morder : XRow) (mtext : XRow) (mtold : XRow) (mahead : XRow) (mhasKept : Int32) (mpasts : Int32) (mreports : Int32) (mthrown : Int32) (mordering : Int32) (mdetail : Int32) (mlength : Int32) (mspot : Int32) (mnumber : Int32) (mtolds : Int32) (p0 : Int32) (p1 : Int32) (p2 : Int32) (p3 : Int32) {post : Int32 → Prop} (hw : wp_X9_greatest mg p0 p1 p2 p3 post) : Ctr l D (xTys cy) sd yX9_greatest wsX9_greatest ({ frames := 0, cells := 0, slots := 0, locals := 0 } : Room) [.ref (A 0), .int p0, .int p1, .int p2, .int p3] (fun u : Int32 => some (.int u)) [((A 0), .inr (10, [.ref (A 1), .ref (A 2), .ref (A 3), .ref (A 4), .int mhasKept, .ref (A 5), .int mpasts, .ref (A 6), .int mreports, .int mthrown, .ref (A 7), .ref (A 8), .ref (A 9), .int mordering, .int mdetail, .ref (A 10), .int mlength, .int mspot, .int mnumber, .ref (A 11), .int mtolds, .ref (A 12)])), ((A 1), .inl (cy 0, 672, .inl mg)), ((A 2), .inl (cy 0, 672, .inl mkept)), ((A 3), .inl (cy 0, 672, .inl mspare)), ((A 4), .inl (cy 0, 672, .inl mtrial)), ((A 5), .inl (cy 0, 5376, .inl mpast)), ((A 6), .inl (cy 0, 6, .inl mreport)), ((A 7), .inl (cy 0, 5, .inl mpart)), ((A 8), .inl (cy 0, 5, .inl mcome)), ((A 9), .inl (cy 0, 60, .inl morder)), ((A 10), .inl (cy 0, 80, .inl mtext)), ((A 11), .inl (cy 0, 200, .inl mtold)), ((A 12), .inl (cy 0, 672, .inl mahead))] (fun _ => [((A 0), .inr (10, [.ref (A 1), .ref (A 2), .ref (A 3), .ref (A 4), .int mhasKept, .ref (A 5), .int mpasts, .ref (A 6), .int mreports, .int mthrown, .ref (A 7), .ref (A 8), .ref (A 9), .int mordering, .int mdetail, .ref (A 10), .int mlength, .int mspot, .int mnumber, .ref (A 11), .int mtolds, .ref (A 12)])), ((A 1), .inl (cy 0, 672, .inl mg)), ((A 2), .inl (cy 0, 672, .inl mkept)), ((A 3), .inl (cy 0, 672, .inl mspare)), ((A 4), .inl (cy 0, 672, .inl mtrial)), ((A 5), .inl (cy 0, 5376, .inl mpast)), ((A 6), .inl (cy 0, 6, .inl mreport)), ((A 7), .inl (cy 0, 5, .inl mpart)), ((A 8), .inl (cy 0, 5, .inl mcome)), ((A 9), .inl (cy 0, 60, .inl morder)), ((A 10), .inl (cy 0, 80, .inl mtext)), ((A 11), .inl (cy 0, 200, .inl mtold)), ((A 12), .inl (cy 0, 672, .inl mahead))]) post := by
  refine Ctr.of (cc := cX9_greatest) (maxL := 7) (ret := (some .int)) (lv0 := [(0, .ref (A 0)), (1, .int p0), (2, .int p1), (3, .int p2), (4, .int p3)]) (by decide) rfl (Nat.le_of_ble_eq_true rfl) rfl ?_
  intro X El hR Er Enm ED E En K
  have K : Cx X cX9_greatest RX9 wsX9_greatest (xTys cy) sd := K
  have E : X.2.2.2.2.2.2.2.2.2.2.1 = xMQ X (fun u : Int32 => some (.int u)) post (fun _ => [((A 0), .inr (10, [.ref (A 1), .ref (A 2), .ref (A 3), .ref (A 4), .int mhasKept, .ref (A 5), .int mpasts, .ref (A 6), .int mreports, .int mthrown, .ref (A 7), .ref (A 8), .ref (A 9), .int mordering, .int mdetail, .ref (A 10), .int mlength, .int mspot, .int mnumber, .ref (A 11), .int mtolds, .ref (A 12)])), ((A 1), .inl (cy 0, 672, .inl mg)), ((A 2), .inl (cy 0, 672, .inl mkept)), ((A 3), .inl (cy 0, 672, .inl mspare)), ((A 4), .inl (cy 0, 672, .inl mtrial)), ((A 5), .inl (cy 0, 5376, .inl mpast)), ((A 6), .inl (cy 0, 6, .inl mreport)), ((A 7), .inl (cy 0, 5, .inl mpart)), ((A 8), .inl (cy 0, 5, .inl mcome)), ((A 9), .inl (cy 0, 60, .inl morder)), ((A 10), .inl (cy 0, 80, .inl mtext)), ((A 11), .inl (cy 0, 200, .inl mtold)), ((A 12), .inl (cy 0, 672, .inl mahead))]) 0 0 := E
  unfold wp_X9_greatest at hw
  refine g_iconst (v := (-1)) K dX9_greatest_0 rfl ?_
  refine g_istore (lv' := [(5, .int (-1)), (0, .ref (A 0)), (1, .int p0), (2, .int p1), (3, .int p2), (4, .int p3)]) K dX9_greatest_1 (by rw [En]; decide) rfl ?_
  refine g_iconst (v := 0) K dX9_greatest_3 rfl ?_
  refine g_istore (lv' := [(6, .int 0), (5, .int (-1)), (0, .ref (A 0)), (1, .int p0), (2, .int p1), (3, .int p2), (4, .int p3)]) K dX9_greatest_4 (by rw [En]; decide) rfl ?_
  obtain ⟨fl, hw⟩ := hw
  have key : ∀ (k6_66 : Int32 → Int32 → Prop), (∀ (v1 : Int32) (v2 : Int32), k6_66 v1 v2 → Gx X 0 0 [((A 0), .inr (10, [.ref (A 1), .ref (A 2), .ref (A 3), .ref (A 4), .int mhasKept, .ref (A 5), .int mpasts, .ref (A 6), .int mreports, .int mthrown, .ref (A 7), .ref (A 8), .ref (A 9), .int mordering, .int mdetail, .ref (A 10), .int mlength, .int mspot, .int mnumber, .ref (A 11), .int mtolds, .ref (A 12)])), ((A 1), .inl (cy 0, 672, .inl mg)), ((A 2), .inl (cy 0, 672, .inl mkept)), ((A 3), .inl (cy 0, 672, .inl mspare)), ((A 4), .inl (cy 0, 672, .inl mtrial)), ((A 5), .inl (cy 0, 5376, .inl mpast)), ((A 6), .inl (cy 0, 6, .inl mreport)), ((A 7), .inl (cy 0, 5, .inl mpart)), ((A 8), .inl (cy 0, 5, .inl mcome)), ((A 9), .inl (cy 0, 60, .inl morder)), ((A 10), .inl (cy 0, 80, .inl mtext)), ((A 11), .inl (cy 0, 200, .inl mtold)), ((A 12), .inl (cy 0, 672, .inl mahead))] [(6, .int v1), (5, .int v2), (0, .ref (A 0)), (1, .int p0), (2, .int p1), (3, .int p2), (4, .int p3)] 66 []) → ∀ (n : Nat) (v1 : Int32) (v2 : Int32), wp_X9_greatest_L6 mg p0 p1 p2 p3 k6_66 n v1 v2 → Gx X 0 0 [((A 0), .inr (10, [.ref (A 1), .ref (A 2), .ref (A 3), .ref (A 4), .int mhasKept, .ref (A 5), .int mpasts, .ref (A 6), .int mreports, .int mthrown, .ref (A 7), .ref (A 8), .ref (A 9), .int mordering, .int mdetail, .ref (A 10), .int mlength, .int mspot, .int mnumber, .ref (A 11), .int mtolds, .ref (A 12)])), ((A 1), .inl (cy 0, 672, .inl mg)), ((A 2), .inl (cy 0, 672, .inl mkept)), ((A 3), .inl (cy 0, 672, .inl mspare)), ((A 4), .inl (cy 0, 672, .inl mtrial)), ((A 5), .inl (cy 0, 5376, .inl mpast)), ((A 6), .inl (cy 0, 6, .inl mreport)), ((A 7), .inl (cy 0, 5, .inl mpart)), ((A 8), .inl (cy 0, 5, .inl mcome)), ((A 9), .inl (cy 0, 60, .inl morder)), ((A 10), .inl (cy 0, 80, .inl mtext)), ((A 11), .inl (cy 0, 200, .inl mtold)), ((A 12), .inl (cy 0, 672, .inl mahead))] [(6, .int v1), (5, .int v2), (0, .ref (A 0)), (1, .int p0), (2, .int p1), (3, .int p2), (4, .int p3)] 6 [] := by
    intro k6_66 hx66 n
    induction n with
    | zero => intro v1 v2 hw; exact hw.elim
    | succ n ih =>
      intro v1 v2 hw
      refine g_iload K 0 dX9_greatest_6 rfl ?_
      refine g_iconst (v := 5) K dX9_greatest_8 rfl ?_
      refine g_icmp_ge (tgt := 66) K dX9_greatest_9 (by decide) (fun hc => ?_) (fun hc => ?_)
      · replace hw := hw.1 hc
        exact hx66 _ _ hw
      · replace hw := hw.2 hc
        refine g_iload K 6 dX9_greatest_12 rfl ?_
        refine g_iload K 0 dX9_greatest_14 rfl ?_
        refine g_ishr K dX9_greatest_16 ?_
        refine g_iconst (v := 1) K dX9_greatest_17 rfl ?_
        refine g_iand K dX9_greatest_18 ?_
        refine g_if_ne (tgt := 60) K dX9_greatest_19 (by decide) (fun hc => ?_) (fun hc => ?_)
        · replace hw := hw.2 hc
          obtain ⟨x3, ex3⟩ : ∃ z : Int32, z = v1 + 1 := ⟨_, rfl⟩
          replace hw := hw x3 ex3
          refine g_iinc (v := x3) (lv' := [(6, .int x3), (5, .int v2), (0, .ref (A 0)), (1, .int p0), (2, .int p1), (3, .int p2), (4, .int p3)]) K 0 dX9_greatest_60 rfl (by rw [ex3]; rfl) (by rw [En]; decide) rfl ?_
          refine g_goto (tgt := 6) K dX9_greatest_63 (by decide) ?_
          exact ih _ _ hw
        · replace hw := hw.1 hc
          refine g_iload K 1 dX9_greatest_22 rfl ?_
          refine g_if_lt (tgt := 56) K dX9_greatest_24 (by decide) (fun hc => ?_) (fun hc => ?_)
          · replace hw := hw.1 hc
            refine g_iload K 0 dX9_greatest_56 rfl ?_
            refine g_istore (lv' := [(5, .int v1), (6, .int v1), (0, .ref (A 0)), (1, .int p0), (2, .int p1), (3, .int p2), (4, .int p3)]) K dX9_greatest_58 (by rw [En]; decide) rfl ?_
            obtain ⟨x4, ex4⟩ : ∃ z : Int32, z = v1 + 1 := ⟨_, rfl⟩
            replace hw := hw x4 ex4
            refine g_iinc (v := x4) (lv' := [(6, .int x4), (5, .int v1), (0, .ref (A 0)), (1, .int p0), (2, .int p1), (3, .int p2), (4, .int p3)]) K 1 dX9_greatest_60 rfl (by rw [ex4]; rfl) (by rw [En]; decide) rfl ?_
            refine g_goto (tgt := 6) K dX9_greatest_63 (by decide) ?_
            exact ih _ _ hw
          · replace hw := hw.2 hc
            refine g_aload_n K 2 dX9_greatest_27 rfl ?_
            refine g_get K (C := RX9) (T := TX9) (N := 22) 0 0 in_X9_greatest_X9 (by decide +kernel) rfl rfl (by decide) rfl dX9_greatest_28 ?_
            refine g_iload_n K 3 dX9_greatest_31 rfl ?_
            refine g_iload K 0 dX9_greatest_32 rfl ?_
            refine g_iadd K dX9_greatest_34 ?_
            refine g_iald K 1 0 rfl rfl hw.1 dX9_greatest_35 ?_
            replace hw := hw.2
            refine g_iload_n K 4 dX9_greatest_36 rfl ?_
            refine g_imul K dX9_greatest_37 ?_
            refine g_iload_n K 5 dX9_greatest_38 rfl ?_
            refine g_irem K dX9_greatest_39 hw.1 ?_
            replace hw := hw.2
            refine g_aload_n K 2 dX9_greatest_40 rfl ?_
            refine g_get K (C := RX9) (T := TX9) (N := 22) 0 0 in_X9_greatest_X9 (by decide +kernel) rfl rfl (by decide) rfl dX9_greatest_41 ?_
            refine g_iload_n K 3 dX9_greatest_44 rfl ?_
            refine g_iload K 1 dX9_greatest_45 rfl ?_
            refine g_iadd K dX9_greatest_47 ?_
            refine g_iald K 1 0 rfl rfl hw.1 dX9_greatest_48 ?_
            replace hw := hw.2
            refine g_iload_n K 4 dX9_greatest_49 rfl ?_
            refine g_imul K dX9_greatest_50 ?_
            refine g_iload_n K 5 dX9_greatest_51 rfl ?_
            refine g_irem K dX9_greatest_52 hw.1 ?_
            replace hw := hw.2
            refine g_icmp_le (tgt := 60) K dX9_greatest_53 (by decide) (fun hc => ?_) (fun hc => ?_)
            · replace hw := hw.1 hc
              obtain ⟨x5, ex5⟩ : ∃ z : Int32, z = v1 + 1 := ⟨_, rfl⟩
              replace hw := hw x5 ex5
              refine g_iinc (v := x5) (lv' := [(6, .int x5), (5, .int v2), (0, .ref (A 0)), (1, .int p0), (2, .int p1), (3, .int p2), (4, .int p3)]) K 0 dX9_greatest_60 rfl (by rw [ex5]; rfl) (by rw [En]; decide) rfl ?_
              refine g_goto (tgt := 6) K dX9_greatest_63 (by decide) ?_
              exact ih _ _ hw
            · replace hw := hw.2 hc
              refine g_iload K 0 dX9_greatest_56 rfl ?_
              refine g_istore (lv' := [(5, .int v1), (6, .int v1), (0, .ref (A 0)), (1, .int p0), (2, .int p1), (3, .int p2), (4, .int p3)]) K dX9_greatest_58 (by rw [En]; decide) rfl ?_
              obtain ⟨x6, ex6⟩ : ∃ z : Int32, z = v1 + 1 := ⟨_, rfl⟩
              replace hw := hw x6 ex6
              refine g_iinc (v := x6) (lv' := [(6, .int x6), (5, .int v1), (0, .ref (A 0)), (1, .int p0), (2, .int p1), (3, .int p2), (4, .int p3)]) K 1 dX9_greatest_60 rfl (by rw [ex6]; rfl) (by rw [En]; decide) rfl ?_
              refine g_goto (tgt := 6) K dX9_greatest_63 (by decide) ?_
              exact ih _ _ hw
  refine key _ (fun v7 v8 hw => ?_) fl _ _ hw
  refine g_iload K 1 dX9_greatest_66 rfl ?_
  exact g_zret K E Er v8 hw rfl rfl rfl (Nat.le_refl _) (Nat.le_refl _) dX9_greatest_68

def wp_X9_takes_L12 (mg : XRow) (p0 : Int32) (p1 : Int32) (u1 : Int32) (k12_64 : Int32 → Int32 → XRow → Prop) : Nat → Int32 → Int32 → XRow → Prop
  | 0, _, _, _ => False
  | fu + 1, v2, v3, v4 => (5 ≤ v2 → (k12_64 v2 v3 v4)) ∧ (¬ 5 ≤ v2 → ((u1 = 0 → (vp_in v2 5 ∧ (vp_in v2 5 ∧ (∀ x7 : Int32, x7 = v3 - ((upd v4 (v2).toNatClampNeg 0) (v2).toNatClampNeg) → (∀ x8 : Int32, x8 = v2 + 1 → (wp_X9_takes_L12 mg p0 p1 u1 k12_64 fu x8 x7 (upd v4 (v2).toNatClampNeg 0))))))) ∧ (¬ u1 = 0 → (vp_in (p0 + v2) 672 ∧ ((¬ u1 = 0) ∧ (vp_in v2 5 ∧ (vp_in v2 5 ∧ (∀ x5 : Int32, x5 = v3 - ((upd v4 (v2).toNatClampNeg (((mg (p0 + v2).toNatClampNeg) * p1) / u1)) (v2).toNatClampNeg) → (∀ x6 : Int32, x6 = v2 + 1 → (wp_X9_takes_L12 mg p0 p1 u1 k12_64 fu x6 x5 (upd v4 (v2).toNatClampNeg (((mg (p0 + v2).toNatClampNeg) * p1) / u1))))))))))))
def wp_X9_takes_L67 (mg : XRow) (p0 : Int32) (p1 : Int32) (u1 : Int32) (k67_109 : Int32 → Int32 → XRow → Prop) : Nat → Int32 → Int32 → XRow → Prop
  | 0, _, _, _ => False
  | fu + 1, v12, v13, v14 => (v13 ≤ 0 → (k67_109 v12 v13 v14)) ∧ (¬ v13 ≤ 0 → (wp_X9_greatest mg p0 p1 u1 v12 (fun u15 : Int32 => ∀ x16 : Int32, x16 = v12 ||| (1 <<< (u15 &&& 31)) → (vp_in u15 5 ∧ (vp_in u15 5 ∧ (∀ x17 : Int32, x17 = v13 + (-1) → (wp_X9_takes_L67 mg p0 p1 u1 k67_109 fu x16 x17 (upd v14 (u15).toNatClampNeg ((v14 (u15).toNatClampNeg) + 1)))))))))
def wp_X9_takes_L112 (p0 : Int32) (v20 : XRow) (k112_143 : Int32 → XRow → Prop) : Nat → Int32 → XRow → Prop
  | 0, _, _ => False
  | fu + 1, v21, v22 => (5 ≤ v21 → (k112_143 v21 v22)) ∧ (¬ 5 ≤ v21 → (vp_in (p0 + v21) 672 ∧ (vp_in v21 5 ∧ (vp_in (p0 + v21) 672 ∧ (∀ x23 : Int32, x23 = v21 + 1 → (wp_X9_takes_L112 p0 v20 k112_143 fu x23 (upd v22 (p0 + v21).toNatClampNeg ((v22 (p0 + v21).toNatClampNeg) - (v20 (v21).toNatClampNeg)))))))))
def wp_X9_takes (mg : XRow) (mpart : XRow) (p0 : Int32) (p1 : Int32) (post : (XRow × XRow) → Prop) : Prop := wp_X9_sum mg p0 (fun u1 : Int32 => ∃ fl, wp_X9_takes_L12 mg p0 p1 u1 (fun (v9 : Int32) (v10 : Int32) (v11 : XRow) => ∃ fl, wp_X9_takes_L67 mg p0 p1 u1 (fun (v18 : Int32) (v19 : Int32) (v20 : XRow) => ∃ fl, wp_X9_takes_L112 p0 v20 (fun (v24 : Int32) (v25 : XRow) => post (v25, v20)) fl 0 mg) fl 0 v10 v11) fl 0 p1 mpart)
theorem in_X9_takes_X9 : ∀ w ∈ u_ws RX9 TX9 22, w ∈ wsX9_takes := by decide +kernel
set_option maxRecDepth 100000 in
set_option maxHeartbeats 4000000 in
theorem c_X9_takes (l : Launch) (D : va_G) (cy : Nat → ClassId) (sd : xSd) (A : Nat → Nat) (mg : XRow) (mkept : XRow) (mspare : XRow) (mtrial : XRow) (mpast : XRow) (mreport : XRow) (mpart : XRow) (mcome : XRow) (morder : XRow) (mtext : XRow) (mtold : XRow) (mahead : XRow) (mhasKept : Int32) (mpasts : Int32) (mreports : Int32) (mthrown : Int32) (mordering : Int32) (mdetail : Int32) (mlength : Int32) (mspot : Int32) (mnumber : Int32) (mtolds : Int32) (p0 : Int32) (p1 : Int32) {post : (XRow × XRow) → Prop} (hw : wp_X9_takes mg mpart p0 p1 post) : Ctr l D (xTys cy) sd yX9_takes wsX9_takes ({ frames := 1, cells := 0, slots := 0, locals := 26 } : Room) [.ref (A 0), .int p0, .int p1] (fun u : XRow × XRow => none) [((A 0), .inr (10, [.ref (A 1), .ref (A 2), .ref (A 3), .ref (A 4), .int mhasKept, .ref (A 5), .int mpasts, .ref (A 6), .int mreports, .int mthrown, .ref (A 7), .ref (A 8), .ref (A 9), .int mordering, .int mdetail, .ref (A 10), .int mlength, .int mspot, .int mnumber, .ref (A 11), .int mtolds, .ref (A 12)])), ((A 1), .inl (cy 0, 672, .inl mg)), ((A 2), .inl (cy 0, 672, .inl mkept)), ((A 3), .inl (cy 0, 672, .inl mspare)), ((A 4), .inl (cy 0, 672, .inl mtrial)), ((A 5), .inl (cy 0, 5376, .inl mpast)), ((A 6), .inl (cy 0, 6, .inl mreport)), ((A 7), .inl (cy 0, 5, .inl mpart)), ((A 8), .inl (cy 0, 5, .inl mcome)), ((A 9), .inl (cy 0, 60, .inl morder)), ((A 10), .inl (cy 0, 80, .inl mtext)), ((A 11), .inl (cy 0, 200, .inl mtold)), ((A 12), .inl (cy 0, 672, .inl mahead))] (fun u => [((A 0), .inr (10, [.ref (A 1), .ref (A 2), .ref (A 3), .ref (A 4), .int mhasKept, .ref (A 5), .int mpasts, .ref (A 6), .int mreports, .int mthrown, .ref (A 7), .ref (A 8), .ref (A 9), .int mordering, .int mdetail, .ref (A 10), .int mlength, .int mspot, .int mnumber, .ref (A 11), .int mtolds, .ref (A 12)])), ((A 1), .inl (cy 0, 672, .inl u.1)), ((A 2), .inl (cy 0, 672, .inl mkept)), ((A 3), .inl (cy 0, 672, .inl mspare)), ((A 4), .inl (cy 0, 672, .inl mtrial)), ((A 5), .inl (cy 0, 5376, .inl mpast)), ((A 6), .inl (cy 0, 6, .inl mreport)), ((A 7), .inl (cy 0, 5, .inl u.2)), ((A 8), .inl (cy 0, 5, .inl mcome)), ((A 9), .inl (cy 0, 60, .inl morder)), ((A 10), .inl (cy 0, 80, .inl mtext)), ((A 11), .inl (cy 0, 200, .inl mtold)), ((A 12), .inl (cy 0, 672, .inl mahead))]) post := by
  refine Ctr.of (cc := cX9_takes) (maxL := 7) (ret := none) (lv0 := [(0, .ref (A 0)), (1, .int p0), (2, .int p1)]) (by decide) rfl (Nat.le_of_ble_eq_true rfl) rfl ?_
  intro X El hR Er Enm ED E En K
  have K : Cx X cX9_takes RX9 wsX9_takes (xTys cy) sd := K
  have E : X.2.2.2.2.2.2.2.2.2.2.1 = xMQ X (fun u : XRow × XRow => none) post (fun u => [((A 0), .inr (10, [.ref (A 1), .ref (A 2), .ref (A 3), .ref (A 4), .int mhasKept, .ref (A 5), .int mpasts, .ref (A 6), .int mreports, .int mthrown, .ref (A 7), .ref (A 8), .ref (A 9), .int mordering, .int mdetail, .ref (A 10), .int mlength, .int mspot, .int mnumber, .ref (A 11), .int mtolds, .ref (A 12)])), ((A 1), .inl (cy 0, 672, .inl u.1)), ((A 2), .inl (cy 0, 672, .inl mkept)), ((A 3), .inl (cy 0, 672, .inl mspare)), ((A 4), .inl (cy 0, 672, .inl mtrial)), ((A 5), .inl (cy 0, 5376, .inl mpast)), ((A 6), .inl (cy 0, 6, .inl mreport)), ((A 7), .inl (cy 0, 5, .inl u.2)), ((A 8), .inl (cy 0, 5, .inl mcome)), ((A 9), .inl (cy 0, 60, .inl morder)), ((A 10), .inl (cy 0, 80, .inl mtext)), ((A 11), .inl (cy 0, 200, .inl mtold)), ((A 12), .inl (cy 0, 672, .inl mahead))]) 0 0 := E
  unfold wp_X9_takes at hw
  refine g_aload_n K 0 dX9_takes_0 rfl ?_
  refine g_iload_n K 1 dX9_takes_1 rfl ?_
  refine g_callVr (st' := fun u1 => [.int u1]) K hR [.int p0] [] 0 rfl rfl (c_X9_sum X.2.1 (gxD X) cy sd A mg mkept mspare mtrial mpast mreport mpart mcome morder mtext mtold mahead mhasKept mpasts mreports mthrown mordering mdetail mlength mspot mnumber mtolds p0 hw) gX9_takes_X9_sum rfl yok_X9_sum rfl rfl (by decide) rfl (Nat.le_of_ble_eq_true rfl) dX9_takes_2 [0, 1, 2, 3, 4, 5, 6, 7, 8, 9, 10, 11, 12] rfl (by decide) (fun _ => rfl) ⟨rfl, rfl⟩ (fun u1 hw => ?_)
  refine g_istore_n (lv' := [(3, .int u1), (0, .ref (A 0)), (1, .int p0), (2, .int p1)]) K dX9_takes_5 rfl (by rw [En]; decide) rfl ?_
  refine g_iload_n K 3 dX9_takes_6 rfl ?_
  refine g_istore (lv' := [(4, .int p1), (3, .int u1), (0, .ref (A 0)), (1, .int p0), (2, .int p1)]) K dX9_takes_7 (by rw [En]; decide) rfl ?_
  refine g_iconst (v := 0) K dX9_takes_9 rfl ?_
  refine g_istore (lv' := [(5, .int 0), (4, .int p1), (3, .int u1), (0, .ref (A 0)), (1, .int p0), (2, .int p1)]) K dX9_takes_10 (by rw [En]; decide) rfl ?_
  obtain ⟨fl, hw⟩ := hw
  have key : ∀ (k12_64 : Int32 → Int32 → XRow → Prop), (∀ (v2 : Int32) (v3 : Int32) (v4 : XRow), k12_64 v2 v3 v4 → Gx X 0 0 [((A 0), .inr (10, [.ref (A 1), .ref (A 2), .ref (A 3), .ref (A 4), .int mhasKept, .ref (A 5), .int mpasts, .ref (A 6), .int mreports, .int mthrown, .ref (A 7), .ref (A 8), .ref (A 9), .int mordering, .int mdetail, .ref (A 10), .int mlength, .int mspot, .int mnumber, .ref (A 11), .int mtolds, .ref (A 12)])), ((A 1), .inl (cy 0, 672, .inl mg)), ((A 2), .inl (cy 0, 672, .inl mkept)), ((A 3), .inl (cy 0, 672, .inl mspare)), ((A 4), .inl (cy 0, 672, .inl mtrial)), ((A 5), .inl (cy 0, 5376, .inl mpast)), ((A 6), .inl (cy 0, 6, .inl mreport)), ((A 7), .inl (cy 0, 5, .inl v4)), ((A 8), .inl (cy 0, 5, .inl mcome)), ((A 9), .inl (cy 0, 60, .inl morder)), ((A 10), .inl (cy 0, 80, .inl mtext)), ((A 11), .inl (cy 0, 200, .inl mtold)), ((A 12), .inl (cy 0, 672, .inl mahead))] [(5, .int v2), (4, .int v3), (3, .int u1), (0, .ref (A 0)), (1, .int p0), (2, .int p1)] 64 []) → ∀ (n : Nat) (v2 : Int32) (v3 : Int32) (v4 : XRow), wp_X9_takes_L12 mg p0 p1 u1 k12_64 n v2 v3 v4 → Gx X 0 0 [((A 0), .inr (10, [.ref (A 1), .ref (A 2), .ref (A 3), .ref (A 4), .int mhasKept, .ref (A 5), .int mpasts, .ref (A 6), .int mreports, .int mthrown, .ref (A 7), .ref (A 8), .ref (A 9), .int mordering, .int mdetail, .ref (A 10), .int mlength, .int mspot, .int mnumber, .ref (A 11), .int mtolds, .ref (A 12)])), ((A 1), .inl (cy 0, 672, .inl mg)), ((A 2), .inl (cy 0, 672, .inl mkept)), ((A 3), .inl (cy 0, 672, .inl mspare)), ((A 4), .inl (cy 0, 672, .inl mtrial)), ((A 5), .inl (cy 0, 5376, .inl mpast)), ((A 6), .inl (cy 0, 6, .inl mreport)), ((A 7), .inl (cy 0, 5, .inl v4)), ((A 8), .inl (cy 0, 5, .inl mcome)), ((A 9), .inl (cy 0, 60, .inl morder)), ((A 10), .inl (cy 0, 80, .inl mtext)), ((A 11), .inl (cy 0, 200, .inl mtold)), ((A 12), .inl (cy 0, 672, .inl mahead))] [(5, .int v2), (4, .int v3), (3, .int u1), (0, .ref (A 0)), (1, .int p0), (2, .int p1)] 12 [] := by
    intro k12_64 hx64 n
    induction n with
    | zero => intro v2 v3 v4 hw; exact hw.elim
    | succ n ih =>
      intro v2 v3 v4 hw
      refine g_iload K 0 dX9_takes_12 rfl ?_
      refine g_iconst (v := 5) K dX9_takes_14 rfl ?_
      refine g_icmp_ge (tgt := 64) K dX9_takes_15 (by decide) (fun hc => ?_) (fun hc => ?_)
      · replace hw := hw.1 hc
        exact hx64 _ _ _ hw
      · replace hw := hw.2 hc
        refine g_aload_n K 3 dX9_takes_18 rfl ?_
        refine g_get K (C := RX9) (T := TX9) (N := 22) 0 10 in_X9_takes_X9 (by decide +kernel) rfl rfl (by decide) rfl dX9_takes_19 ?_
        refine g_iload K 0 dX9_takes_22 rfl ?_
        refine g_iload_n K 2 dX9_takes_24 rfl ?_
        refine g_if_ne (tgt := 32) K dX9_takes_25 (by decide) (fun hc => ?_) (fun hc => ?_)
        · replace hw := hw.2 hc
          refine g_aload_n K 3 dX9_takes_32 rfl ?_
          refine g_get K (C := RX9) (T := TX9) (N := 22) 0 0 in_X9_takes_X9 (by decide +kernel) rfl rfl (by decide) rfl dX9_takes_33 ?_
          refine g_iload_n K 4 dX9_takes_36 rfl ?_
          refine g_iload K 0 dX9_takes_37 rfl ?_
          refine g_iadd K dX9_takes_39 ?_
          refine g_iald K 1 0 rfl rfl hw.1 dX9_takes_40 ?_
          replace hw := hw.2
          refine g_iload_n K 5 dX9_takes_41 rfl ?_
          refine g_imul K dX9_takes_42 ?_
          refine g_iload_n K 2 dX9_takes_43 rfl ?_
          refine g_idiv K dX9_takes_44 hw.1 ?_
          replace hw := hw.2
          refine g_iast (ws' := [((A 0), .inr (10, [.ref (A 1), .ref (A 2), .ref (A 3), .ref (A 4), .int mhasKept, .ref (A 5), .int mpasts, .ref (A 6), .int mreports, .int mthrown, .ref (A 7), .ref (A 8), .ref (A 9), .int mordering, .int mdetail, .ref (A 10), .int mlength, .int mspot, .int mnumber, .ref (A 11), .int mtolds, .ref (A 12)])), ((A 1), .inl (cy 0, 672, .inl mg)), ((A 2), .inl (cy 0, 672, .inl mkept)), ((A 3), .inl (cy 0, 672, .inl mspare)), ((A 4), .inl (cy 0, 672, .inl mtrial)), ((A 5), .inl (cy 0, 5376, .inl mpast)), ((A 6), .inl (cy 0, 6, .inl mreport)), ((A 7), .inl (cy 0, 5, .inl (upd v4 (v2).toNatClampNeg (((mg (p0 + v2).toNatClampNeg) * p1) / u1)))), ((A 8), .inl (cy 0, 5, .inl mcome)), ((A 9), .inl (cy 0, 60, .inl morder)), ((A 10), .inl (cy 0, 80, .inl mtext)), ((A 11), .inl (cy 0, 200, .inl mtold)), ((A 12), .inl (cy 0, 672, .inl mahead))]) K 7 0 rfl rfl hw.1 rfl dX9_takes_45 ?_
          replace hw := hw.2
          refine g_iload K 1 dX9_takes_46 rfl ?_
          refine g_aload_n K 3 dX9_takes_48 rfl ?_
          refine g_get K (C := RX9) (T := TX9) (N := 22) 0 10 in_X9_takes_X9 (by decide +kernel) rfl rfl (by decide) rfl dX9_takes_49 ?_
          refine g_iload K 0 dX9_takes_52 rfl ?_
          refine g_iald K 7 0 rfl rfl hw.1 dX9_takes_54 ?_
          replace hw := hw.2
          refine g_isub K dX9_takes_55 ?_
          refine g_topi (fun x5 ex5 => ?_)
          replace hw := hw x5 ex5
          refine g_istore (lv' := [(4, .int x5), (5, .int v2), (3, .int u1), (0, .ref (A 0)), (1, .int p0), (2, .int p1)]) K dX9_takes_56 (by rw [En]; decide) rfl ?_
          obtain ⟨x6, ex6⟩ : ∃ z : Int32, z = v2 + 1 := ⟨_, rfl⟩
          replace hw := hw x6 ex6
          refine g_iinc (v := x6) (lv' := [(5, .int x6), (4, .int x5), (3, .int u1), (0, .ref (A 0)), (1, .int p0), (2, .int p1)]) K 1 dX9_takes_58 rfl (by rw [ex6]; rfl) (by rw [En]; decide) rfl ?_
          refine g_goto (tgt := 12) K dX9_takes_61 (by decide) ?_
          exact ih _ _ _ hw
        · replace hw := hw.1 hc
          refine g_iconst (v := 0) K dX9_takes_28 rfl ?_
          refine g_goto (tgt := 45) K dX9_takes_29 (by decide) ?_
          refine g_iast (ws' := [((A 0), .inr (10, [.ref (A 1), .ref (A 2), .ref (A 3), .ref (A 4), .int mhasKept, .ref (A 5), .int mpasts, .ref (A 6), .int mreports, .int mthrown, .ref (A 7), .ref (A 8), .ref (A 9), .int mordering, .int mdetail, .ref (A 10), .int mlength, .int mspot, .int mnumber, .ref (A 11), .int mtolds, .ref (A 12)])), ((A 1), .inl (cy 0, 672, .inl mg)), ((A 2), .inl (cy 0, 672, .inl mkept)), ((A 3), .inl (cy 0, 672, .inl mspare)), ((A 4), .inl (cy 0, 672, .inl mtrial)), ((A 5), .inl (cy 0, 5376, .inl mpast)), ((A 6), .inl (cy 0, 6, .inl mreport)), ((A 7), .inl (cy 0, 5, .inl (upd v4 (v2).toNatClampNeg 0))), ((A 8), .inl (cy 0, 5, .inl mcome)), ((A 9), .inl (cy 0, 60, .inl morder)), ((A 10), .inl (cy 0, 80, .inl mtext)), ((A 11), .inl (cy 0, 200, .inl mtold)), ((A 12), .inl (cy 0, 672, .inl mahead))]) K 7 0 rfl rfl hw.1 rfl dX9_takes_45 ?_
          replace hw := hw.2
          refine g_iload K 1 dX9_takes_46 rfl ?_
          refine g_aload_n K 3 dX9_takes_48 rfl ?_
          refine g_get K (C := RX9) (T := TX9) (N := 22) 0 10 in_X9_takes_X9 (by decide +kernel) rfl rfl (by decide) rfl dX9_takes_49 ?_
          refine g_iload K 0 dX9_takes_52 rfl ?_
          refine g_iald K 7 0 rfl rfl hw.1 dX9_takes_54 ?_
          replace hw := hw.2
          refine g_isub K dX9_takes_55 ?_
          refine g_topi (fun x7 ex7 => ?_)
          replace hw := hw x7 ex7
          refine g_istore (lv' := [(4, .int x7), (5, .int v2), (3, .int u1), (0, .ref (A 0)), (1, .int p0), (2, .int p1)]) K dX9_takes_56 (by rw [En]; decide) rfl ?_
          obtain ⟨x8, ex8⟩ : ∃ z : Int32, z = v2 + 1 := ⟨_, rfl⟩
          replace hw := hw x8 ex8
          refine g_iinc (v := x8) (lv' := [(5, .int x8), (4, .int x7), (3, .int u1), (0, .ref (A 0)), (1, .int p0), (2, .int p1)]) K 1 dX9_takes_58 rfl (by rw [ex8]; rfl) (by rw [En]; decide) rfl ?_
          refine g_goto (tgt := 12) K dX9_takes_61 (by decide) ?_
          exact ih _ _ _ hw
  refine key _ (fun v9 v10 v11 hw => ?_) fl _ _ _ hw
  refine g_iconst (v := 0) K dX9_takes_64 rfl ?_
  refine g_istore (lv' := [(5, .int 0), (4, .int v10), (3, .int u1), (0, .ref (A 0)), (1, .int p0), (2, .int p1)]) K dX9_takes_65 (by rw [En]; decide) rfl ?_
  obtain ⟨fl, hw⟩ := hw
  have key : ∀ (k67_109 : Int32 → Int32 → XRow → Prop), (∀ (v12 : Int32) (v13 : Int32) (v14 : XRow), k67_109 v12 v13 v14 → Gx X 0 0 [((A 0), .inr (10, [.ref (A 1), .ref (A 2), .ref (A 3), .ref (A 4), .int mhasKept, .ref (A 5), .int mpasts, .ref (A 6), .int mreports, .int mthrown, .ref (A 7), .ref (A 8), .ref (A 9), .int mordering, .int mdetail, .ref (A 10), .int mlength, .int mspot, .int mnumber, .ref (A 11), .int mtolds, .ref (A 12)])), ((A 1), .inl (cy 0, 672, .inl mg)), ((A 2), .inl (cy 0, 672, .inl mkept)), ((A 3), .inl (cy 0, 672, .inl mspare)), ((A 4), .inl (cy 0, 672, .inl mtrial)), ((A 5), .inl (cy 0, 5376, .inl mpast)), ((A 6), .inl (cy 0, 6, .inl mreport)), ((A 7), .inl (cy 0, 5, .inl v14)), ((A 8), .inl (cy 0, 5, .inl mcome)), ((A 9), .inl (cy 0, 60, .inl morder)), ((A 10), .inl (cy 0, 80, .inl mtext)), ((A 11), .inl (cy 0, 200, .inl mtold)), ((A 12), .inl (cy 0, 672, .inl mahead))] [(5, .int v12), (4, .int v13), (3, .int u1), (0, .ref (A 0)), (1, .int p0), (2, .int p1)] 109 []) → ∀ (n : Nat) (v12 : Int32) (v13 : Int32) (v14 : XRow), wp_X9_takes_L67 mg p0 p1 u1 k67_109 n v12 v13 v14 → Gx X 0 0 [((A 0), .inr (10, [.ref (A 1), .ref (A 2), .ref (A 3), .ref (A 4), .int mhasKept, .ref (A 5), .int mpasts, .ref (A 6), .int mreports, .int mthrown, .ref (A 7), .ref (A 8), .ref (A 9), .int mordering, .int mdetail, .ref (A 10), .int mlength, .int mspot, .int mnumber, .ref (A 11), .int mtolds, .ref (A 12)])), ((A 1), .inl (cy 0, 672, .inl mg)), ((A 2), .inl (cy 0, 672, .inl mkept)), ((A 3), .inl (cy 0, 672, .inl mspare)), ((A 4), .inl (cy 0, 672, .inl mtrial)), ((A 5), .inl (cy 0, 5376, .inl mpast)), ((A 6), .inl (cy 0, 6, .inl mreport)), ((A 7), .inl (cy 0, 5, .inl v14)), ((A 8), .inl (cy 0, 5, .inl mcome)), ((A 9), .inl (cy 0, 60, .inl morder)), ((A 10), .inl (cy 0, 80, .inl mtext)), ((A 11), .inl (cy 0, 200, .inl mtold)), ((A 12), .inl (cy 0, 672, .inl mahead))] [(5, .int v12), (4, .int v13), (3, .int u1), (0, .ref (A 0)), (1, .int p0), (2, .int p1)] 67 [] := by
    intro k67_109 hx109 n
    induction n with
    | zero => intro v12 v13 v14 hw; exact hw.elim
    | succ n ih =>
      intro v12 v13 v14 hw
      refine g_iload K 1 dX9_takes_67 rfl ?_
      refine g_if_le (tgt := 109) K dX9_takes_69 (by decide) (fun hc => ?_) (fun hc => ?_)
      · replace hw := hw.1 hc
        exact hx109 _ _ _ hw
      · replace hw := hw.2 hc
        refine g_aload_n K 3 dX9_takes_72 rfl ?_
        refine g_iload_n K 4 dX9_takes_73 rfl ?_
        refine g_iload_n K 5 dX9_takes_74 rfl ?_
        refine g_iload_n K 2 dX9_takes_75 rfl ?_
        refine g_iload K 0 dX9_takes_76 rfl ?_
        refine g_callVr (st' := fun u15 => [.int u15]) K hR [.int p0, .int p1, .int u1, .int v12] [] 0 rfl rfl (c_X9_greatest X.2.1 (gxD X) cy sd A mg mkept mspare mtrial mpast mreport v14 mcome morder mtext mtold mahead mhasKept mpasts mreports mthrown mordering mdetail mlength mspot mnumber mtolds p0 p1 u1 v12 hw) gX9_takes_X9_greatest rfl yok_X9_greatest rfl rfl (by decide) rfl (Nat.le_of_ble_eq_true rfl) dX9_takes_78 [0, 1, 2, 3, 4, 5, 6, 7, 8, 9, 10, 11, 12] rfl (by decide) (fun _ => rfl) ⟨rfl, rfl⟩ (fun u15 hw => ?_)
        refine g_istore (lv' := [(6, .int u15), (5, .int v12), (4, .int v13), (3, .int u1), (0, .ref (A 0)), (1, .int p0), (2, .int p1)]) K dX9_takes_81 (by rw [En]; decide) rfl ?_
        refine g_iload K 1 dX9_takes_83 rfl ?_
        refine g_iconst (v := 1) K dX9_takes_85 rfl ?_
        refine g_iload K 0 dX9_takes_86 rfl ?_
        refine g_ishl K dX9_takes_88 ?_
        refine g_ior K dX9_takes_89 ?_
        refine g_topi (fun x16 ex16 => ?_)
        replace hw := hw x16 ex16
        refine g_istore (lv' := [(5, .int x16), (6, .int u15), (4, .int v13), (3, .int u1), (0, .ref (A 0)), (1, .int p0), (2, .int p1)]) K dX9_takes_90 (by rw [En]; decide) rfl ?_
        refine g_aload_n K 4 dX9_takes_92 rfl ?_
        refine g_get K (C := RX9) (T := TX9) (N := 22) 0 10 in_X9_takes_X9 (by decide +kernel) rfl rfl (by decide) rfl dX9_takes_93 ?_
        refine g_iload K 1 dX9_takes_96 rfl ?_
        refine g_dup2_11 K dX9_takes_98 rfl rfl ?_
        refine g_iald K 7 0 rfl rfl hw.1 dX9_takes_99 ?_
        replace hw := hw.2
        refine g_iconst (v := 1) K dX9_takes_100 rfl ?_
        refine g_iadd K dX9_takes_101 ?_
        refine g_iast (ws' := [((A 0), .inr (10, [.ref (A 1), .ref (A 2), .ref (A 3), .ref (A 4), .int mhasKept, .ref (A 5), .int mpasts, .ref (A 6), .int mreports, .int mthrown, .ref (A 7), .ref (A 8), .ref (A 9), .int mordering, .int mdetail, .ref (A 10), .int mlength, .int mspot, .int mnumber, .ref (A 11), .int mtolds, .ref (A 12)])), ((A 1), .inl (cy 0, 672, .inl mg)), ((A 2), .inl (cy 0, 672, .inl mkept)), ((A 3), .inl (cy 0, 672, .inl mspare)), ((A 4), .inl (cy 0, 672, .inl mtrial)), ((A 5), .inl (cy 0, 5376, .inl mpast)), ((A 6), .inl (cy 0, 6, .inl mreport)), ((A 7), .inl (cy 0, 5, .inl (upd v14 (u15).toNatClampNeg ((v14 (u15).toNatClampNeg) + 1)))), ((A 8), .inl (cy 0, 5, .inl mcome)), ((A 9), .inl (cy 0, 60, .inl morder)), ((A 10), .inl (cy 0, 80, .inl mtext)), ((A 11), .inl (cy 0, 200, .inl mtold)), ((A 12), .inl (cy 0, 672, .inl mahead))]) K 7 0 rfl rfl hw.1 rfl dX9_takes_102 ?_
        replace hw := hw.2
        obtain ⟨x17, ex17⟩ : ∃ z : Int32, z = v13 + (-1) := ⟨_, rfl⟩
        replace hw := hw x17 ex17
        refine g_iinc (v := x17) (lv' := [(4, .int x17), (5, .int x16), (6, .int u15), (3, .int u1), (0, .ref (A 0)), (1, .int p0), (2, .int p1)]) K 2 dX9_takes_103 rfl (by rw [ex17]; rfl) (by rw [En]; decide) rfl ?_
        refine g_goto (tgt := 67) K dX9_takes_106 (by decide) ?_
        refine gx_locals [1, 0, 3, 4, 5, 6] rfl ?_
        exact ih _ _ _ hw
  refine key _ (fun v18 v19 v20 hw => ?_) fl _ _ _ hw
  refine g_iconst (v := 0) K dX9_takes_109 rfl ?_
  refine g_istore (lv' := [(6, .int 0), (5, .int v18), (4, .int v19), (3, .int u1), (0, .ref (A 0)), (1, .int p0), (2, .int p1)]) K dX9_takes_110 (by rw [En]; decide) rfl ?_
  obtain ⟨fl, hw⟩ := hw
  have key : ∀ (k112_143 : Int32 → XRow → Prop), (∀ (v21 : Int32) (v22 : XRow), k112_143 v21 v22 → Gx X 0 0 [((A 0), .inr (10, [.ref (A 1), .ref (A 2), .ref (A 3), .ref (A 4), .int mhasKept, .ref (A 5), .int mpasts, .ref (A 6), .int mreports, .int mthrown, .ref (A 7), .ref (A 8), .ref (A 9), .int mordering, .int mdetail, .ref (A 10), .int mlength, .int mspot, .int mnumber, .ref (A 11), .int mtolds, .ref (A 12)])), ((A 1), .inl (cy 0, 672, .inl v22)), ((A 2), .inl (cy 0, 672, .inl mkept)), ((A 3), .inl (cy 0, 672, .inl mspare)), ((A 4), .inl (cy 0, 672, .inl mtrial)), ((A 5), .inl (cy 0, 5376, .inl mpast)), ((A 6), .inl (cy 0, 6, .inl mreport)), ((A 7), .inl (cy 0, 5, .inl v20)), ((A 8), .inl (cy 0, 5, .inl mcome)), ((A 9), .inl (cy 0, 60, .inl morder)), ((A 10), .inl (cy 0, 80, .inl mtext)), ((A 11), .inl (cy 0, 200, .inl mtold)), ((A 12), .inl (cy 0, 672, .inl mahead))] [(6, .int v21), (5, .int v18), (4, .int v19), (3, .int u1), (0, .ref (A 0)), (1, .int p0), (2, .int p1)] 143 []) → ∀ (n : Nat) (v21 : Int32) (v22 : XRow), wp_X9_takes_L112 p0 v20 k112_143 n v21 v22 → Gx X 0 0 [((A 0), .inr (10, [.ref (A 1), .ref (A 2), .ref (A 3), .ref (A 4), .int mhasKept, .ref (A 5), .int mpasts, .ref (A 6), .int mreports, .int mthrown, .ref (A 7), .ref (A 8), .ref (A 9), .int mordering, .int mdetail, .ref (A 10), .int mlength, .int mspot, .int mnumber, .ref (A 11), .int mtolds, .ref (A 12)])), ((A 1), .inl (cy 0, 672, .inl v22)), ((A 2), .inl (cy 0, 672, .inl mkept)), ((A 3), .inl (cy 0, 672, .inl mspare)), ((A 4), .inl (cy 0, 672, .inl mtrial)), ((A 5), .inl (cy 0, 5376, .inl mpast)), ((A 6), .inl (cy 0, 6, .inl mreport)), ((A 7), .inl (cy 0, 5, .inl v20)), ((A 8), .inl (cy 0, 5, .inl mcome)), ((A 9), .inl (cy 0, 60, .inl morder)), ((A 10), .inl (cy 0, 80, .inl mtext)), ((A 11), .inl (cy 0, 200, .inl mtold)), ((A 12), .inl (cy 0, 672, .inl mahead))] [(6, .int v21), (5, .int v18), (4, .int v19), (3, .int u1), (0, .ref (A 0)), (1, .int p0), (2, .int p1)] 112 [] := by
    intro k112_143 hx143 n
    induction n with
    | zero => intro v21 v22 hw; exact hw.elim
    | succ n ih =>
      intro v21 v22 hw
      refine g_iload K 0 dX9_takes_112 rfl ?_
      refine g_iconst (v := 5) K dX9_takes_114 rfl ?_
      refine g_icmp_ge (tgt := 143) K dX9_takes_115 (by decide) (fun hc => ?_) (fun hc => ?_)
      · replace hw := hw.1 hc
        exact hx143 _ _ hw
      · replace hw := hw.2 hc
        refine g_aload_n K 4 dX9_takes_118 rfl ?_
        refine g_get K (C := RX9) (T := TX9) (N := 22) 0 0 in_X9_takes_X9 (by decide +kernel) rfl rfl (by decide) rfl dX9_takes_119 ?_
        refine g_iload_n K 5 dX9_takes_122 rfl ?_
        refine g_iload K 0 dX9_takes_123 rfl ?_
        refine g_iadd K dX9_takes_125 ?_
        refine g_dup2_11 K dX9_takes_126 rfl rfl ?_
        refine g_iald K 1 0 rfl rfl hw.1 dX9_takes_127 ?_
        replace hw := hw.2
        refine g_aload_n K 4 dX9_takes_128 rfl ?_
        refine g_get K (C := RX9) (T := TX9) (N := 22) 0 10 in_X9_takes_X9 (by decide +kernel) rfl rfl (by decide) rfl dX9_takes_129 ?_
        refine g_iload K 0 dX9_takes_132 rfl ?_
        refine g_iald K 7 0 rfl rfl hw.1 dX9_takes_134 ?_
        replace hw := hw.2
        refine g_isub K dX9_takes_135 ?_
        refine g_iast (ws' := [((A 0), .inr (10, [.ref (A 1), .ref (A 2), .ref (A 3), .ref (A 4), .int mhasKept, .ref (A 5), .int mpasts, .ref (A 6), .int mreports, .int mthrown, .ref (A 7), .ref (A 8), .ref (A 9), .int mordering, .int mdetail, .ref (A 10), .int mlength, .int mspot, .int mnumber, .ref (A 11), .int mtolds, .ref (A 12)])), ((A 1), .inl (cy 0, 672, .inl (upd v22 (p0 + v21).toNatClampNeg ((v22 (p0 + v21).toNatClampNeg) - (v20 (v21).toNatClampNeg))))), ((A 2), .inl (cy 0, 672, .inl mkept)), ((A 3), .inl (cy 0, 672, .inl mspare)), ((A 4), .inl (cy 0, 672, .inl mtrial)), ((A 5), .inl (cy 0, 5376, .inl mpast)), ((A 6), .inl (cy 0, 6, .inl mreport)), ((A 7), .inl (cy 0, 5, .inl v20)), ((A 8), .inl (cy 0, 5, .inl mcome)), ((A 9), .inl (cy 0, 60, .inl morder)), ((A 10), .inl (cy 0, 80, .inl mtext)), ((A 11), .inl (cy 0, 200, .inl mtold)), ((A 12), .inl (cy 0, 672, .inl mahead))]) K 1 0 rfl rfl hw.1 rfl dX9_takes_136 ?_
        replace hw := hw.2
        obtain ⟨x23, ex23⟩ : ∃ z : Int32, z = v21 + 1 := ⟨_, rfl⟩
        replace hw := hw x23 ex23
        refine g_iinc (v := x23) (lv' := [(6, .int x23), (5, .int v18), (4, .int v19), (3, .int u1), (0, .ref (A 0)), (1, .int p0), (2, .int p1)]) K 0 dX9_takes_137 rfl (by rw [ex23]; rfl) (by rw [En]; decide) rfl ?_
        refine g_goto (tgt := 112) K dX9_takes_140 (by decide) ?_
        exact ih _ _ hw
  refine key _ (fun v24 v25 hw => ?_) fl _ _ hw
  exact g_vret K E Er (v25, v20) hw rfl rfl (Nat.le_refl _) (Nat.le_refl _) dX9_takes_143

def wp_X9_samples_L52 (p0 : Int32) (v3 : XRow) (k52_90 : Int32 → Int32 → Prop) : Nat → Int32 → Int32 → Prop
  | 0, _, _ => False
  | fu + 1, v5, v6 => wp_X9_baleAt p0 v5 (fun u7 : Int32 => vp_in u7 672 ∧ ((v6 < ((upd v3 ((1 : Int32).toNatClampNeg) (((v3 ((1 : Int32).toNatClampNeg)) * 1103515245) + 12345)) (u7).toNatClampNeg) → (k52_90 v5 v6)) ∧ (¬ v6 < ((upd v3 ((1 : Int32).toNatClampNeg) (((v3 ((1 : Int32).toNatClampNeg)) * 1103515245) + 12345)) (u7).toNatClampNeg) → (wp_X9_baleAt p0 v5 (fun u8 : Int32 => vp_in u8 672 ∧ (∀ x9 : Int32, x9 = v6 - ((upd v3 ((1 : Int32).toNatClampNeg) (((v3 ((1 : Int32).toNatClampNeg)) * 1103515245) + 12345)) (u8).toNatClampNeg) → (∀ x10 : Int32, x10 = v5 + 1 → (wp_X9_samples_L52 p0 v3 k52_90 fu x10 x9))))))))
def wp_X9_samples_L5 (p0 : Int32) (p1 : Int32) (k5_119 : Int32 → Int32 → XRow → Prop) : Nat → Int32 → Int32 → XRow → Prop
  | 0, _, _, _ => False
  | fu + 1, v1, v2, v3 => vp_in 9 672 ∧ (((v3 ((9 : Int32).toNatClampNeg)) ≤ v1 → (k5_119 v1 v2 v3)) ∧ (¬ (v3 ((9 : Int32).toNatClampNeg)) ≤ v1 → (vp_in 1 672 ∧ (vp_in 1 672 ∧ (vp_in 1 672 ∧ ((¬ p1 = 0) ∧ (∀ x4 : Int32, x4 = (xUshr ((upd v3 ((1 : Int32).toNatClampNeg) (((v3 ((1 : Int32).toNatClampNeg)) * 1103515245) + 12345)) ((1 : Int32).toNatClampNeg)) 16) - (xUshr ((upd v3 ((1 : Int32).toNatClampNeg) (((v3 ((1 : Int32).toNatClampNeg)) * 1103515245) + 12345)) ((1 : Int32).toNatClampNeg)) 16) / p1 * p1 → (∃ fl, wp_X9_samples_L52 p0 v3 (fun (v11 : Int32) (v12 : Int32) => wp_X9_baleAt p0 5 (fun u13 : Int32 => vp_in u13 672 ∧ ((v11 = ((upd v3 ((1 : Int32).toNatClampNeg) (((v3 ((1 : Int32).toNatClampNeg)) * 1103515245) + 12345)) (u13).toNatClampNeg) → (∀ x16 : Int32, x16 = v2 + 1 → (∀ x17 : Int32, x17 = v1 + 1 → (wp_X9_samples_L5 p0 p1 k5_119 fu x17 x16 (upd v3 ((1 : Int32).toNatClampNeg) (((v3 ((1 : Int32).toNatClampNeg)) * 1103515245) + 12345)))))) ∧ (¬ v11 = ((upd v3 ((1 : Int32).toNatClampNeg) (((v3 ((1 : Int32).toNatClampNeg)) * 1103515245) + 12345)) (u13).toNatClampNeg) → (∀ x14 : Int32, x14 = v2 + 0 → (∀ x15 : Int32, x15 = v1 + 1 → (wp_X9_samples_L5 p0 p1 k5_119 fu x15 x14 (upd v3 ((1 : Int32).toNatClampNeg) (((v3 ((1 : Int32).toNatClampNeg)) * 1103515245) + 12345))))))))) fl 0 x4))))))))
def wp_X9_samples (mg : XRow) (p0 : Int32) (p1 : Int32) (post : (Int32 × XRow) → Prop) : Prop := ∃ fl, wp_X9_samples_L5 p0 p1 (fun (v18 : Int32) (v19 : Int32) (v20 : XRow) => vp_in 9 672 ∧ ((¬ (v20 ((9 : Int32).toNatClampNeg)) = 0) ∧ (post ((v19 * 1000) / (v20 ((9 : Int32).toNatClampNeg)), v20)))) fl 0 0 mg
theorem in_X9_samples_X9 : ∀ w ∈ u_ws RX9 TX9 22, w ∈ wsX9_samples := by decide +kernel
set_option maxRecDepth 100000 in
set_option maxHeartbeats 4000000 in
theorem c_X9_samples (l : Launch) (D : va_G) (cy : Nat → ClassId) (sd : xSd) (A : Nat → Nat) (mg : XRow) (mkept : XRow) (mspare : XRow) (mtrial : XRow) (mpast : XRow) (mreport : XRow) (mpart : XRow) (mcome : XRow) (morder : XRow) (mtext : XRow) (mtold : XRow) (mahead : XRow) (mhasKept : Int32) (mpasts : Int32) (mreports : Int32) (mthrown : Int32) (mordering : Int32) (mdetail : Int32) (mlength : Int32) (mspot : Int32) (mnumber : Int32) (mtolds : Int32) (p0 : Int32) (p1 : Int32) {post : (Int32 × XRow) → Prop} (hw : wp_X9_samples mg p0 p1 post) : Ctr l D (xTys cy) sd yX9_samples wsX9_samples ({ frames := 1, cells := 0, slots := 0, locals := 21 } : Room) [.ref (A 0), .int p0, .int p1] (fun u : Int32 × XRow => some (.int u.1)) [((A 0), .inr (10, [.ref (A 1), .ref (A 2), .ref (A 3), .ref (A 4), .int mhasKept, .ref (A 5), .int mpasts, .ref (A 6), .int mreports, .int mthrown, .ref (A 7), .ref (A 8), .ref (A 9), .int mordering, .int mdetail, .ref (A 10), .int mlength, .int mspot, .int mnumber, .ref (A 11), .int mtolds, .ref (A 12)])), ((A 1), .inl (cy 0, 672, .inl mg)), ((A 2), .inl (cy 0, 672, .inl mkept)), ((A 3), .inl (cy 0, 672, .inl mspare)), ((A 4), .inl (cy 0, 672, .inl mtrial)), ((A 5), .inl (cy 0, 5376, .inl mpast)), ((A 6), .inl (cy 0, 6, .inl mreport)), ((A 7), .inl (cy 0, 5, .inl mpart)), ((A 8), .inl (cy 0, 5, .inl mcome)), ((A 9), .inl (cy 0, 60, .inl morder)), ((A 10), .inl (cy 0, 80, .inl mtext)), ((A 11), .inl (cy 0, 200, .inl mtold)), ((A 12), .inl (cy 0, 672, .inl mahead))] (fun u => [((A 0), .inr (10, [.ref (A 1), .ref (A 2), .ref (A 3), .ref (A 4), .int mhasKept, .ref (A 5), .int mpasts, .ref (A 6), .int mreports, .int mthrown, .ref (A 7), .ref (A 8), .ref (A 9), .int mordering, .int mdetail, .ref (A 10), .int mlength, .int mspot, .int mnumber, .ref (A 11), .int mtolds, .ref (A 12)])), ((A 1), .inl (cy 0, 672, .inl u.2)), ((A 2), .inl (cy 0, 672, .inl mkept)), ((A 3), .inl (cy 0, 672, .inl mspare)), ((A 4), .inl (cy 0, 672, .inl mtrial)), ((A 5), .inl (cy 0, 5376, .inl mpast)), ((A 6), .inl (cy 0, 6, .inl mreport)), ((A 7), .inl (cy 0, 5, .inl mpart)), ((A 8), .inl (cy 0, 5, .inl mcome)), ((A 9), .inl (cy 0, 60, .inl morder)), ((A 10), .inl (cy 0, 80, .inl mtext)), ((A 11), .inl (cy 0, 200, .inl mtold)), ((A 12), .inl (cy 0, 672, .inl mahead))]) post := by
  refine Ctr.of (cc := cX9_samples) (maxL := 7) (ret := (some .int)) (lv0 := [(0, .ref (A 0)), (1, .int p0), (2, .int p1)]) (by decide) rfl (Nat.le_of_ble_eq_true rfl) rfl ?_
  intro X El hR Er Enm ED E En K
  have K : Cx X cX9_samples RX9 wsX9_samples (xTys cy) sd := K
  have E : X.2.2.2.2.2.2.2.2.2.2.1 = xMQ X (fun u : Int32 × XRow => some (.int u.1)) post (fun u => [((A 0), .inr (10, [.ref (A 1), .ref (A 2), .ref (A 3), .ref (A 4), .int mhasKept, .ref (A 5), .int mpasts, .ref (A 6), .int mreports, .int mthrown, .ref (A 7), .ref (A 8), .ref (A 9), .int mordering, .int mdetail, .ref (A 10), .int mlength, .int mspot, .int mnumber, .ref (A 11), .int mtolds, .ref (A 12)])), ((A 1), .inl (cy 0, 672, .inl u.2)), ((A 2), .inl (cy 0, 672, .inl mkept)), ((A 3), .inl (cy 0, 672, .inl mspare)), ((A 4), .inl (cy 0, 672, .inl mtrial)), ((A 5), .inl (cy 0, 5376, .inl mpast)), ((A 6), .inl (cy 0, 6, .inl mreport)), ((A 7), .inl (cy 0, 5, .inl mpart)), ((A 8), .inl (cy 0, 5, .inl mcome)), ((A 9), .inl (cy 0, 60, .inl morder)), ((A 10), .inl (cy 0, 80, .inl mtext)), ((A 11), .inl (cy 0, 200, .inl mtold)), ((A 12), .inl (cy 0, 672, .inl mahead))]) 0 0 := E
  unfold wp_X9_samples at hw
  refine g_iconst (v := 0) K dX9_samples_0 rfl ?_
  refine g_istore_n (lv' := [(3, .int 0), (0, .ref (A 0)), (1, .int p0), (2, .int p1)]) K dX9_samples_1 rfl (by rw [En]; decide) rfl ?_
  refine g_iconst (v := 0) K dX9_samples_2 rfl ?_
  refine g_istore (lv' := [(4, .int 0), (3, .int 0), (0, .ref (A 0)), (1, .int p0), (2, .int p1)]) K dX9_samples_3 (by rw [En]; decide) rfl ?_
  obtain ⟨fl, hw⟩ := hw
  have key : ∀ (k5_119 : Int32 → Int32 → XRow → Prop), (∀ (v1 : Int32) (v2 : Int32) (v3 : XRow), k5_119 v1 v2 v3 → Gx X 0 0 [((A 0), .inr (10, [.ref (A 1), .ref (A 2), .ref (A 3), .ref (A 4), .int mhasKept, .ref (A 5), .int mpasts, .ref (A 6), .int mreports, .int mthrown, .ref (A 7), .ref (A 8), .ref (A 9), .int mordering, .int mdetail, .ref (A 10), .int mlength, .int mspot, .int mnumber, .ref (A 11), .int mtolds, .ref (A 12)])), ((A 1), .inl (cy 0, 672, .inl v3)), ((A 2), .inl (cy 0, 672, .inl mkept)), ((A 3), .inl (cy 0, 672, .inl mspare)), ((A 4), .inl (cy 0, 672, .inl mtrial)), ((A 5), .inl (cy 0, 5376, .inl mpast)), ((A 6), .inl (cy 0, 6, .inl mreport)), ((A 7), .inl (cy 0, 5, .inl mpart)), ((A 8), .inl (cy 0, 5, .inl mcome)), ((A 9), .inl (cy 0, 60, .inl morder)), ((A 10), .inl (cy 0, 80, .inl mtext)), ((A 11), .inl (cy 0, 200, .inl mtold)), ((A 12), .inl (cy 0, 672, .inl mahead))] [(4, .int v1), (3, .int v2), (0, .ref (A 0)), (1, .int p0), (2, .int p1)] 119 []) → ∀ (n : Nat) (v1 : Int32) (v2 : Int32) (v3 : XRow), wp_X9_samples_L5 p0 p1 k5_119 n v1 v2 v3 → Gx X 0 0 [((A 0), .inr (10, [.ref (A 1), .ref (A 2), .ref (A 3), .ref (A 4), .int mhasKept, .ref (A 5), .int mpasts, .ref (A 6), .int mreports, .int mthrown, .ref (A 7), .ref (A 8), .ref (A 9), .int mordering, .int mdetail, .ref (A 10), .int mlength, .int mspot, .int mnumber, .ref (A 11), .int mtolds, .ref (A 12)])), ((A 1), .inl (cy 0, 672, .inl v3)), ((A 2), .inl (cy 0, 672, .inl mkept)), ((A 3), .inl (cy 0, 672, .inl mspare)), ((A 4), .inl (cy 0, 672, .inl mtrial)), ((A 5), .inl (cy 0, 5376, .inl mpast)), ((A 6), .inl (cy 0, 6, .inl mreport)), ((A 7), .inl (cy 0, 5, .inl mpart)), ((A 8), .inl (cy 0, 5, .inl mcome)), ((A 9), .inl (cy 0, 60, .inl morder)), ((A 10), .inl (cy 0, 80, .inl mtext)), ((A 11), .inl (cy 0, 200, .inl mtold)), ((A 12), .inl (cy 0, 672, .inl mahead))] [(4, .int v1), (3, .int v2), (0, .ref (A 0)), (1, .int p0), (2, .int p1)] 5 [] := by
    intro k5_119 hx119 n
    induction n with
    | zero => intro v1 v2 v3 hw; exact hw.elim
    | succ n ih =>
      intro v1 v2 v3 hw
      refine g_iload K 0 dX9_samples_5 rfl ?_
      refine g_aload_n K 2 dX9_samples_7 rfl ?_
      refine g_get K (C := RX9) (T := TX9) (N := 22) 0 0 in_X9_samples_X9 (by decide +kernel) rfl rfl (by decide) rfl dX9_samples_8 ?_
      refine g_bipush (v := 9) K dX9_samples_11 rfl ?_
      refine g_iald K 1 0 rfl rfl hw.1 dX9_samples_13 ?_
      replace hw := hw.2
      refine g_icmp_ge (tgt := 119) K dX9_samples_14 (by decide) (fun hc => ?_) (fun hc => ?_)
      · replace hw := hw.1 hc
        exact hx119 _ _ _ hw
      · replace hw := hw.2 hc
        refine g_aload_n K 2 dX9_samples_17 rfl ?_
        refine g_get K (C := RX9) (T := TX9) (N := 22) 0 0 in_X9_samples_X9 (by decide +kernel) rfl rfl (by decide) rfl dX9_samples_18 ?_
        refine g_iconst (v := 1) K dX9_samples_21 rfl ?_
        refine g_aload_n K 2 dX9_samples_22 rfl ?_
        refine g_get K (C := RX9) (T := TX9) (N := 22) 0 0 in_X9_samples_X9 (by decide +kernel) rfl rfl (by decide) rfl dX9_samples_23 ?_
        refine g_iconst (v := 1) K dX9_samples_26 rfl ?_
        refine g_iald K 1 0 rfl rfl hw.1 dX9_samples_27 ?_
        replace hw := hw.2
        refine g_ldcI (v := 1103515245) K (by decide +kernel) dX9_samples_28 ?_
        refine g_imul K dX9_samples_30 ?_
        refine g_sipush (v := 12345) K dX9_samples_31 rfl ?_
        refine g_iadd K dX9_samples_34 ?_
        refine g_iast (ws' := [((A 0), .inr (10, [.ref (A 1), .ref (A 2), .ref (A 3), .ref (A 4), .int mhasKept, .ref (A 5), .int mpasts, .ref (A 6), .int mreports, .int mthrown, .ref (A 7), .ref (A 8), .ref (A 9), .int mordering, .int mdetail, .ref (A 10), .int mlength, .int mspot, .int mnumber, .ref (A 11), .int mtolds, .ref (A 12)])), ((A 1), .inl (cy 0, 672, .inl (upd v3 ((1 : Int32).toNatClampNeg) (((v3 ((1 : Int32).toNatClampNeg)) * 1103515245) + 12345)))), ((A 2), .inl (cy 0, 672, .inl mkept)), ((A 3), .inl (cy 0, 672, .inl mspare)), ((A 4), .inl (cy 0, 672, .inl mtrial)), ((A 5), .inl (cy 0, 5376, .inl mpast)), ((A 6), .inl (cy 0, 6, .inl mreport)), ((A 7), .inl (cy 0, 5, .inl mpart)), ((A 8), .inl (cy 0, 5, .inl mcome)), ((A 9), .inl (cy 0, 60, .inl morder)), ((A 10), .inl (cy 0, 80, .inl mtext)), ((A 11), .inl (cy 0, 200, .inl mtold)), ((A 12), .inl (cy 0, 672, .inl mahead))]) K 1 0 rfl rfl hw.1 rfl dX9_samples_35 ?_
        replace hw := hw.2
        refine g_aload_n K 2 dX9_samples_36 rfl ?_
        refine g_get K (C := RX9) (T := TX9) (N := 22) 0 0 in_X9_samples_X9 (by decide +kernel) rfl rfl (by decide) rfl dX9_samples_37 ?_
        refine g_iconst (v := 1) K dX9_samples_40 rfl ?_
        refine g_iald K 1 0 rfl rfl hw.1 dX9_samples_41 ?_
        replace hw := hw.2
        refine g_bipush (v := 16) K dX9_samples_42 rfl ?_
        refine g_iushr (v := xUshr ((upd v3 ((1 : Int32).toNatClampNeg) (((v3 ((1 : Int32).toNatClampNeg)) * 1103515245) + 12345)) ((1 : Int32).toNatClampNeg)) 16) K dX9_samples_44 rfl ?_
        refine g_iload_n K 4 dX9_samples_45 rfl ?_
        refine g_irem K dX9_samples_46 hw.1 ?_
        replace hw := hw.2
        refine g_topi (fun x4 ex4 => ?_)
        replace hw := hw x4 ex4
        refine g_istore (lv' := [(5, .int x4), (4, .int v1), (3, .int v2), (0, .ref (A 0)), (1, .int p0), (2, .int p1)]) K dX9_samples_47 (by rw [En]; decide) rfl ?_
        refine g_iconst (v := 0) K dX9_samples_49 rfl ?_
        refine g_istore (lv' := [(6, .int 0), (5, .int x4), (4, .int v1), (3, .int v2), (0, .ref (A 0)), (1, .int p0), (2, .int p1)]) K dX9_samples_50 (by rw [En]; decide) rfl ?_
        obtain ⟨fl, hw⟩ := hw
        have key : ∀ (k52_90 : Int32 → Int32 → Prop), (∀ (v5 : Int32) (v6 : Int32), k52_90 v5 v6 → Gx X 0 0 [((A 0), .inr (10, [.ref (A 1), .ref (A 2), .ref (A 3), .ref (A 4), .int mhasKept, .ref (A 5), .int mpasts, .ref (A 6), .int mreports, .int mthrown, .ref (A 7), .ref (A 8), .ref (A 9), .int mordering, .int mdetail, .ref (A 10), .int mlength, .int mspot, .int mnumber, .ref (A 11), .int mtolds, .ref (A 12)])), ((A 1), .inl (cy 0, 672, .inl (upd v3 ((1 : Int32).toNatClampNeg) (((v3 ((1 : Int32).toNatClampNeg)) * 1103515245) + 12345)))), ((A 2), .inl (cy 0, 672, .inl mkept)), ((A 3), .inl (cy 0, 672, .inl mspare)), ((A 4), .inl (cy 0, 672, .inl mtrial)), ((A 5), .inl (cy 0, 5376, .inl mpast)), ((A 6), .inl (cy 0, 6, .inl mreport)), ((A 7), .inl (cy 0, 5, .inl mpart)), ((A 8), .inl (cy 0, 5, .inl mcome)), ((A 9), .inl (cy 0, 60, .inl morder)), ((A 10), .inl (cy 0, 80, .inl mtext)), ((A 11), .inl (cy 0, 200, .inl mtold)), ((A 12), .inl (cy 0, 672, .inl mahead))] [(6, .int v5), (5, .int v6), (4, .int v1), (3, .int v2), (0, .ref (A 0)), (1, .int p0), (2, .int p1)] 90 []) → ∀ (n : Nat) (v5 : Int32) (v6 : Int32), wp_X9_samples_L52 p0 v3 k52_90 n v5 v6 → Gx X 0 0 [((A 0), .inr (10, [.ref (A 1), .ref (A 2), .ref (A 3), .ref (A 4), .int mhasKept, .ref (A 5), .int mpasts, .ref (A 6), .int mreports, .int mthrown, .ref (A 7), .ref (A 8), .ref (A 9), .int mordering, .int mdetail, .ref (A 10), .int mlength, .int mspot, .int mnumber, .ref (A 11), .int mtolds, .ref (A 12)])), ((A 1), .inl (cy 0, 672, .inl (upd v3 ((1 : Int32).toNatClampNeg) (((v3 ((1 : Int32).toNatClampNeg)) * 1103515245) + 12345)))), ((A 2), .inl (cy 0, 672, .inl mkept)), ((A 3), .inl (cy 0, 672, .inl mspare)), ((A 4), .inl (cy 0, 672, .inl mtrial)), ((A 5), .inl (cy 0, 5376, .inl mpast)), ((A 6), .inl (cy 0, 6, .inl mreport)), ((A 7), .inl (cy 0, 5, .inl mpart)), ((A 8), .inl (cy 0, 5, .inl mcome)), ((A 9), .inl (cy 0, 60, .inl morder)), ((A 10), .inl (cy 0, 80, .inl mtext)), ((A 11), .inl (cy 0, 200, .inl mtold)), ((A 12), .inl (cy 0, 672, .inl mahead))] [(6, .int v5), (5, .int v6), (4, .int v1), (3, .int v2), (0, .ref (A 0)), (1, .int p0), (2, .int p1)] 52 [] := by
          intro k52_90 hx90 n
          induction n with
          | zero => intro v5 v6 hw; exact hw.elim
          | succ n ih =>
            intro v5 v6 hw
            refine g_iload K 1 dX9_samples_52 rfl ?_
            refine g_aload_n K 4 dX9_samples_54 rfl ?_
            refine g_get K (C := RX9) (T := TX9) (N := 22) 0 0 in_X9_samples_X9 (by decide +kernel) rfl rfl (by decide) rfl dX9_samples_55 ?_
            refine g_iload_n K 5 dX9_samples_58 rfl ?_
            refine g_iload K 0 dX9_samples_59 rfl ?_
            refine g_callSr (st' := fun u7 => [.int u7, .ref (A 1), .int v6]) K hR [.int p0, .int v5] [.ref (A 1), .int v6] (c_X9_baleAt X.2.1 (gxD X) cy sd p0 v5 hw) gX9_samples_X9_baleAt rfl yok_X9_baleAt rfl (by decide) rfl (Nat.le_of_ble_eq_true rfl) dX9_samples_61 [] rfl (by decide) (fun _ => rfl) ⟨rfl, rfl⟩ (fun u7 hw => ?_)
            refine g_iald K 1 0 rfl rfl hw.1 dX9_samples_64 ?_
            replace hw := hw.2
            refine g_icmp_lt (tgt := 90) K dX9_samples_65 (by decide) (fun hc => ?_) (fun hc => ?_)
            · replace hw := hw.1 hc
              exact hx90 _ _ hw
            · replace hw := hw.2 hc
              refine g_iload K 1 dX9_samples_68 rfl ?_
              refine g_aload_n K 4 dX9_samples_70 rfl ?_
              refine g_get K (C := RX9) (T := TX9) (N := 22) 0 0 in_X9_samples_X9 (by decide +kernel) rfl rfl (by decide) rfl dX9_samples_71 ?_
              refine g_iload_n K 5 dX9_samples_74 rfl ?_
              refine g_iload K 0 dX9_samples_75 rfl ?_
              refine g_callSr (st' := fun u8 => [.int u8, .ref (A 1), .int v6]) K hR [.int p0, .int v5] [.ref (A 1), .int v6] (c_X9_baleAt X.2.1 (gxD X) cy sd p0 v5 hw) gX9_samples_X9_baleAt rfl yok_X9_baleAt rfl (by decide) rfl (Nat.le_of_ble_eq_true rfl) dX9_samples_77 [] rfl (by decide) (fun _ => rfl) ⟨rfl, rfl⟩ (fun u8 hw => ?_)
              refine g_iald K 1 0 rfl rfl hw.1 dX9_samples_80 ?_
              replace hw := hw.2
              refine g_isub K dX9_samples_81 ?_
              refine g_topi (fun x9 ex9 => ?_)
              replace hw := hw x9 ex9
              refine g_istore (lv' := [(5, .int x9), (6, .int v5), (4, .int v1), (3, .int v2), (0, .ref (A 0)), (1, .int p0), (2, .int p1)]) K dX9_samples_82 (by rw [En]; decide) rfl ?_
              obtain ⟨x10, ex10⟩ : ∃ z : Int32, z = v5 + 1 := ⟨_, rfl⟩
              replace hw := hw x10 ex10
              refine g_iinc (v := x10) (lv' := [(6, .int x10), (5, .int x9), (4, .int v1), (3, .int v2), (0, .ref (A 0)), (1, .int p0), (2, .int p1)]) K 1 dX9_samples_84 rfl (by rw [ex10]; rfl) (by rw [En]; decide) rfl ?_
              refine g_goto (tgt := 52) K dX9_samples_87 (by decide) ?_
              exact ih _ _ hw
        refine key _ (fun v11 v12 hw => ?_) fl _ _ hw
        refine g_iload_n K 3 dX9_samples_90 rfl ?_
        refine g_iload K 0 dX9_samples_91 rfl ?_
        refine g_aload_n K 4 dX9_samples_93 rfl ?_
        refine g_get K (C := RX9) (T := TX9) (N := 22) 0 0 in_X9_samples_X9 (by decide +kernel) rfl rfl (by decide) rfl dX9_samples_94 ?_
        refine g_iload_n K 5 dX9_samples_97 rfl ?_
        refine g_iconst (v := 5) K dX9_samples_98 rfl ?_
        refine g_callSr (st' := fun u13 => [.int u13, .ref (A 1), .int v11, .int v2]) K hR [.int p0, .int 5] [.ref (A 1), .int v11, .int v2] (c_X9_baleAt X.2.1 (gxD X) cy sd p0 5 hw) gX9_samples_X9_baleAt rfl yok_X9_baleAt rfl (by decide) rfl (Nat.le_of_ble_eq_true rfl) dX9_samples_99 [] rfl (by decide) (fun _ => rfl) ⟨rfl, rfl⟩ (fun u13 hw => ?_)
        refine g_iald K 1 0 rfl rfl hw.1 dX9_samples_102 ?_
        replace hw := hw.2
        refine g_icmp_ne (tgt := 110) K dX9_samples_103 (by decide) (fun hc => ?_) (fun hc => ?_)
        · replace hw := hw.2 hc
          refine g_iconst (v := 0) K dX9_samples_110 rfl ?_
          refine g_iadd K dX9_samples_111 ?_
          refine g_topi (fun x14 ex14 => ?_)
          replace hw := hw x14 ex14
          refine g_istore_n (lv' := [(3, .int x14), (6, .int v11), (5, .int v12), (4, .int v1), (0, .ref (A 0)), (1, .int p0), (2, .int p1)]) K dX9_samples_112 rfl (by rw [En]; decide) rfl ?_
          obtain ⟨x15, ex15⟩ : ∃ z : Int32, z = v1 + 1 := ⟨_, rfl⟩
          replace hw := hw x15 ex15
          refine g_iinc (v := x15) (lv' := [(4, .int x15), (3, .int x14), (6, .int v11), (5, .int v12), (0, .ref (A 0)), (1, .int p0), (2, .int p1)]) K 3 dX9_samples_113 rfl (by rw [ex15]; rfl) (by rw [En]; decide) rfl ?_
          refine g_goto (tgt := 5) K dX9_samples_116 (by decide) ?_
          refine gx_locals [0, 1, 4, 5, 6] rfl ?_
          exact ih _ _ _ hw
        · replace hw := hw.1 hc
          refine g_iconst (v := 1) K dX9_samples_106 rfl ?_
          refine g_goto (tgt := 111) K dX9_samples_107 (by decide) ?_
          refine g_iadd K dX9_samples_111 ?_
          refine g_topi (fun x16 ex16 => ?_)
          replace hw := hw x16 ex16
          refine g_istore_n (lv' := [(3, .int x16), (6, .int v11), (5, .int v12), (4, .int v1), (0, .ref (A 0)), (1, .int p0), (2, .int p1)]) K dX9_samples_112 rfl (by rw [En]; decide) rfl ?_
          obtain ⟨x17, ex17⟩ : ∃ z : Int32, z = v1 + 1 := ⟨_, rfl⟩
          replace hw := hw x17 ex17
          refine g_iinc (v := x17) (lv' := [(4, .int x17), (3, .int x16), (6, .int v11), (5, .int v12), (0, .ref (A 0)), (1, .int p0), (2, .int p1)]) K 3 dX9_samples_113 rfl (by rw [ex17]; rfl) (by rw [En]; decide) rfl ?_
          refine g_goto (tgt := 5) K dX9_samples_116 (by decide) ?_
          refine gx_locals [0, 1, 4, 5, 6] rfl ?_
          exact ih _ _ _ hw
  refine key _ (fun v18 v19 v20 hw => ?_) fl _ _ _ hw
  refine g_iload_n K 1 dX9_samples_119 rfl ?_
  refine g_sipush (v := 1000) K dX9_samples_120 rfl ?_
  refine g_imul K dX9_samples_123 ?_
  refine g_aload_n K 2 dX9_samples_124 rfl ?_
  refine g_get K (C := RX9) (T := TX9) (N := 22) 0 0 in_X9_samples_X9 (by decide +kernel) rfl rfl (by decide) rfl dX9_samples_125 ?_
  refine g_bipush (v := 9) K dX9_samples_128 rfl ?_
  refine g_iald K 1 0 rfl rfl hw.1 dX9_samples_130 ?_
  replace hw := hw.2
  refine g_idiv K dX9_samples_131 hw.1 ?_
  replace hw := hw.2
  exact g_zret K E Er ((v19 * 1000) / (v20 ((9 : Int32).toNatClampNeg)), v20) hw rfl rfl rfl (Nat.le_refl _) (Nat.le_refl _) dX9_samples_132

def wp_X9_gradeBy (p0 : Int32) (post : Int32 → Prop) : Prop := (p0 < 950 → ((p0 < 850 → ((p0 < 700 → (post 3)) ∧ (¬ p0 < 700 → (post 2)))) ∧ (¬ p0 < 850 → (post 1)))) ∧ (¬ p0 < 950 → (post 0))
set_option maxRecDepth 100000 in
set_option maxHeartbeats 4000000 in
theorem c_X9_gradeBy (l : Launch) (D : va_G) (cy : Nat → ClassId) (sd : xSd)  (p0 : Int32) {post : Int32 → Prop} (hw : wp_X9_gradeBy p0 post) : Ctr l D (xTys cy) sd yX9_gradeBy wsX9_gradeBy ({ frames := 0, cells := 0, slots := 0, locals := 0 } : Room) [.int p0] (fun u : Int32 => some (.int u)) [] (fun _ => []) post := by
  refine Ctr.of (cc := cX9_gradeBy) (maxL := 1) (ret := (some .int)) (lv0 := [(0, .int p0)]) (by decide) rfl (Nat.le_of_ble_eq_true rfl) rfl ?_
  intro X El hR Er Enm ED E En K
  have K : Cx X cX9_gradeBy RX9 wsX9_gradeBy (xTys cy) sd := K
  have E : X.2.2.2.2.2.2.2.2.2.2.1 = xMQ X (fun u : Int32 => some (.int u)) post (fun _ => []) 0 0 := E
  unfold wp_X9_gradeBy at hw
  refine g_iload_n K 0 dX9_gradeBy_0 rfl ?_
  refine g_sipush (v := 950) K dX9_gradeBy_1 rfl ?_
  refine g_icmp_lt (tgt := 11) K dX9_gradeBy_4 (by decide) (fun hc => ?_) (fun hc => ?_)
  · replace hw := hw.1 hc
    refine g_iload_n K 0 dX9_gradeBy_11 rfl ?_
    refine g_sipush (v := 850) K dX9_gradeBy_12 rfl ?_
    refine g_icmp_lt (tgt := 22) K dX9_gradeBy_15 (by decide) (fun hc => ?_) (fun hc => ?_)
    · replace hw := hw.1 hc
      refine g_iload_n K 0 dX9_gradeBy_22 rfl ?_
      refine g_sipush (v := 700) K dX9_gradeBy_23 rfl ?_
      refine g_icmp_lt (tgt := 33) K dX9_gradeBy_26 (by decide) (fun hc => ?_) (fun hc => ?_)
      · replace hw := hw.1 hc
        refine g_iconst (v := 3) K dX9_gradeBy_33 rfl ?_
        exact g_zret K E Er 3 hw rfl rfl rfl (Nat.le_refl _) (Nat.le_refl _) dX9_gradeBy_34
      · replace hw := hw.2 hc
        refine g_iconst (v := 2) K dX9_gradeBy_29 rfl ?_
        refine g_goto (tgt := 34) K dX9_gradeBy_30 (by decide) ?_
        exact g_zret K E Er 2 hw rfl rfl rfl (Nat.le_refl _) (Nat.le_refl _) dX9_gradeBy_34
    · replace hw := hw.2 hc
      refine g_iconst (v := 1) K dX9_gradeBy_18 rfl ?_
      refine g_goto (tgt := 34) K dX9_gradeBy_19 (by decide) ?_
      exact g_zret K E Er 1 hw rfl rfl rfl (Nat.le_refl _) (Nat.le_refl _) dX9_gradeBy_34
  · replace hw := hw.2 hc
    refine g_iconst (v := 0) K dX9_gradeBy_7 rfl ?_
    refine g_goto (tgt := 34) K dX9_gradeBy_8 (by decide) ?_
    exact g_zret K E Er 0 hw rfl rfl rfl (Nat.le_refl _) (Nat.le_refl _) dX9_gradeBy_34

def wp_X9_grade (mg : XRow) (p0 : Int32) (post : Int32 → Prop) : Prop := wp_X9_baleAt p0 6 (fun u1 : Int32 => vp_in u1 672 ∧ (wp_X9_gradeBy (mg (u1).toNatClampNeg) (fun u2 : Int32 => post u2)))
theorem in_X9_grade_X9 : ∀ w ∈ u_ws RX9 TX9 22, w ∈ wsX9_grade := by decide +kernel
set_option maxRecDepth 100000 in
set_option maxHeartbeats 4000000 in
theorem c_X9_grade (l : Launch) (D : va_G) (cy : Nat → ClassId) (sd : xSd) (A : Nat → Nat) (mg : XRow) (mkept : XRow) (mspare : XRow) (mtrial : XRow) (mpast : XRow) (mreport : XRow) (mpart : XRow) (mcome : XRow) (morder : XRow) (mtext : XRow) (mtold : XRow) (mahead : XRow) (mhasKept : Int32) (mpasts : Int32) (mreports : Int32) (mthrown : Int32) (mordering : Int32) (mdetail : Int32) (mlength : Int32) (mspot : Int32) (mnumber : Int32) (mtolds : Int32) (p0 : Int32) {post : Int32 → Prop} (hw : wp_X9_grade mg p0 post) : Ctr l D (xTys cy) sd yX9_grade wsX9_grade ({ frames := 1, cells := 0, slots := 0, locals := 21 } : Room) [.ref (A 0), .int p0] (fun u : Int32 => some (.int u)) [((A 0), .inr (10, [.ref (A 1), .ref (A 2), .ref (A 3), .ref (A 4), .int mhasKept, .ref (A 5), .int mpasts, .ref (A 6), .int mreports, .int mthrown, .ref (A 7), .ref (A 8), .ref (A 9), .int mordering, .int mdetail, .ref (A 10), .int mlength, .int mspot, .int mnumber, .ref (A 11), .int mtolds, .ref (A 12)])), ((A 1), .inl (cy 0, 672, .inl mg)), ((A 2), .inl (cy 0, 672, .inl mkept)), ((A 3), .inl (cy 0, 672, .inl mspare)), ((A 4), .inl (cy 0, 672, .inl mtrial)), ((A 5), .inl (cy 0, 5376, .inl mpast)), ((A 6), .inl (cy 0, 6, .inl mreport)), ((A 7), .inl (cy 0, 5, .inl mpart)), ((A 8), .inl (cy 0, 5, .inl mcome)), ((A 9), .inl (cy 0, 60, .inl morder)), ((A 10), .inl (cy 0, 80, .inl mtext)), ((A 11), .inl (cy 0, 200, .inl mtold)), ((A 12), .inl (cy 0, 672, .inl mahead))] (fun _ => [((A 0), .inr (10, [.ref (A 1), .ref (A 2), .ref (A 3), .ref (A 4), .int mhasKept, .ref (A 5), .int mpasts, .ref (A 6), .int mreports, .int mthrown, .ref (A 7), .ref (A 8), .ref (A 9), .int mordering, .int mdetail, .ref (A 10), .int mlength, .int mspot, .int mnumber, .ref (A 11), .int mtolds, .ref (A 12)])), ((A 1), .inl (cy 0, 672, .inl mg)), ((A 2), .inl (cy 0, 672, .inl mkept)), ((A 3), .inl (cy 0, 672, .inl mspare)), ((A 4), .inl (cy 0, 672, .inl mtrial)), ((A 5), .inl (cy 0, 5376, .inl mpast)), ((A 6), .inl (cy 0, 6, .inl mreport)), ((A 7), .inl (cy 0, 5, .inl mpart)), ((A 8), .inl (cy 0, 5, .inl mcome)), ((A 9), .inl (cy 0, 60, .inl morder)), ((A 10), .inl (cy 0, 80, .inl mtext)), ((A 11), .inl (cy 0, 200, .inl mtold)), ((A 12), .inl (cy 0, 672, .inl mahead))]) post := by
  refine Ctr.of (cc := cX9_grade) (maxL := 2) (ret := (some .int)) (lv0 := [(0, .ref (A 0)), (1, .int p0)]) (by decide) rfl (Nat.le_of_ble_eq_true rfl) rfl ?_
  intro X El hR Er Enm ED E En K
  have K : Cx X cX9_grade RX9 wsX9_grade (xTys cy) sd := K
  have E : X.2.2.2.2.2.2.2.2.2.2.1 = xMQ X (fun u : Int32 => some (.int u)) post (fun _ => [((A 0), .inr (10, [.ref (A 1), .ref (A 2), .ref (A 3), .ref (A 4), .int mhasKept, .ref (A 5), .int mpasts, .ref (A 6), .int mreports, .int mthrown, .ref (A 7), .ref (A 8), .ref (A 9), .int mordering, .int mdetail, .ref (A 10), .int mlength, .int mspot, .int mnumber, .ref (A 11), .int mtolds, .ref (A 12)])), ((A 1), .inl (cy 0, 672, .inl mg)), ((A 2), .inl (cy 0, 672, .inl mkept)), ((A 3), .inl (cy 0, 672, .inl mspare)), ((A 4), .inl (cy 0, 672, .inl mtrial)), ((A 5), .inl (cy 0, 5376, .inl mpast)), ((A 6), .inl (cy 0, 6, .inl mreport)), ((A 7), .inl (cy 0, 5, .inl mpart)), ((A 8), .inl (cy 0, 5, .inl mcome)), ((A 9), .inl (cy 0, 60, .inl morder)), ((A 10), .inl (cy 0, 80, .inl mtext)), ((A 11), .inl (cy 0, 200, .inl mtold)), ((A 12), .inl (cy 0, 672, .inl mahead))]) 0 0 := E
  unfold wp_X9_grade at hw
  refine g_aload_n K 0 dX9_grade_0 rfl ?_
  refine g_get K (C := RX9) (T := TX9) (N := 22) 0 0 in_X9_grade_X9 (by decide +kernel) rfl rfl (by decide) rfl dX9_grade_1 ?_
  refine g_iload_n K 1 dX9_grade_4 rfl ?_
  refine g_bipush (v := 6) K dX9_grade_5 rfl ?_
  refine g_callSr (st' := fun u1 => [.int u1, .ref (A 1)]) K hR [.int p0, .int 6] [.ref (A 1)] (c_X9_baleAt X.2.1 (gxD X) cy sd p0 6 hw) gX9_grade_X9_baleAt rfl yok_X9_baleAt rfl (by decide) rfl (Nat.le_of_ble_eq_true rfl) dX9_grade_7 [] rfl (by decide) (fun _ => rfl) ⟨rfl, rfl⟩ (fun u1 hw => ?_)
  refine g_iald K 1 0 rfl rfl hw.1 dX9_grade_10 ?_
  replace hw := hw.2
  refine g_callSr (st' := fun u2 => [.int u2]) K hR [.int (mg (u1).toNatClampNeg)] [] (c_X9_gradeBy X.2.1 (gxD X) cy sd (mg (u1).toNatClampNeg) hw) gX9_grade_X9_gradeBy rfl yok_X9_gradeBy rfl (by decide) rfl (Nat.le_of_ble_eq_true rfl) dX9_grade_11 [] rfl (by decide) (fun _ => rfl) ⟨rfl, rfl⟩ (fun u2 hw => ?_)
  exact g_zret K E Er u2 hw rfl rfl rfl (Nat.le_refl _) (Nat.le_refl _) dX9_grade_14

def wp_X9_bales_L50 (u2 : XRow × XRow) (x3 : Int32) (k50_77 : Int32 → XRow → Prop) : Nat → Int32 → XRow → Prop
  | 0, _, _ => False
  | fu + 1, v5, v6 => (5 ≤ v5 → (k50_77 v5 v6)) ∧ (¬ 5 ≤ v5 → (wp_X9_baleAt x3 v5 (fun u7 : Int32 => vp_in v5 5 ∧ (vp_in u7 672 ∧ (∀ x8 : Int32, x8 = v5 + 1 → (wp_X9_bales_L50 u2 x3 k50_77 fu x8 (upd v6 (u7).toNatClampNeg (u2.2 (v5).toNatClampNeg))))))))
def wp_X9_bales_L178 (x3 : Int32) (k178_211 : Int32 → XRow → Prop) : Nat → Int32 → XRow → Prop
  | 0, _, _ => False
  | fu + 1, v19, v20 => (5 ≤ v19 → (k178_211 v19 v20)) ∧ (¬ 5 ≤ v19 → (vp_in (11 + v19) 672 ∧ (wp_X9_baleAt x3 v19 (fun u21 : Int32 => vp_in u21 672 ∧ (vp_in (11 + v19) 672 ∧ (∀ x22 : Int32, x22 = v19 + 1 → (wp_X9_bales_L178 x3 k178_211 fu x22 (upd v20 (11 + v19).toNatClampNeg ((v20 (11 + v19).toNatClampNeg) + (v20 (u21).toNatClampNeg))))))))))
def wp_X9_bales (mg : XRow) (mpart : XRow) (p0 : Int32) (post : (XRow × XRow) → Prop) : Prop := wp_X9_machineAt p0 5 (fun u1 : Int32 => vp_in 8 672 ∧ (wp_X9_takes mg mpart u1 (mg ((8 : Int32).toNatClampNeg)) (fun u2 : XRow × XRow => vp_in 2 672 ∧ (∀ x3 : Int32, x3 = u2.1 ((2 : Int32).toNatClampNeg) → (vp_in 2 672 ∧ (vp_in 2 672 ∧ (wp_X9_machineAt p0 10 (fun u4 : Int32 => vp_in u4 672 ∧ (vp_in u4 672 ∧ (∃ fl, wp_X9_bales_L50 u2 x3 (fun (v9 : Int32) (v10 : XRow) => wp_X9_baleAt x3 5 (fun u11 : Int32 => wp_X9_machineAt p0 0 (fun u12 : Int32 => vp_in u12 672 ∧ (vp_in u11 672 ∧ (wp_X9_baleAt x3 6 (fun u13 : Int32 => vp_in 8 672 ∧ (wp_X9_samples (upd v10 (u11).toNatClampNeg (v10 (u12).toNatClampNeg)) x3 ((upd v10 (u11).toNatClampNeg (v10 (u12).toNatClampNeg)) ((8 : Int32).toNatClampNeg)) (fun u14 : Int32 × XRow => vp_in u13 672 ∧ (wp_X9_baleAt x3 7 (fun u15 : Int32 => vp_in u15 672 ∧ (wp_X9_baleAt x3 8 (fun u16 : Int32 => vp_in u16 672 ∧ (vp_in 10 672 ∧ ((((upd (upd (upd u14.2 (u13).toNatClampNeg u14.1) (u15).toNatClampNeg 0) (u16).toNatClampNeg (-1)) ((10 : Int32).toNatClampNeg)) = 1 → (wp_X9_grade (upd (upd (upd u14.2 (u13).toNatClampNeg u14.1) (u15).toNatClampNeg 0) (u16).toNatClampNeg (-1)) x3 (fun u17 : Int32 => (u17 = 3 → (wp_X9_baleAt x3 7 (fun u18 : Int32 => vp_in u18 672 ∧ (∃ fl, wp_X9_bales_L178 x3 (fun (v23 : Int32) (v24 : XRow) => post (v24, u2.2)) fl 0 (upd (upd (upd (upd u14.2 (u13).toNatClampNeg u14.1) (u15).toNatClampNeg 0) (u16).toNatClampNeg (-1)) (u18).toNatClampNeg 2))))) ∧ (¬ u17 = 3 → (post (upd (upd (upd u14.2 (u13).toNatClampNeg u14.1) (u15).toNatClampNeg 0) (u16).toNatClampNeg (-1), u2.2)))))) ∧ (¬ ((upd (upd (upd u14.2 (u13).toNatClampNeg u14.1) (u15).toNatClampNeg 0) (u16).toNatClampNeg (-1)) ((10 : Int32).toNatClampNeg)) = 1 → (post (upd (upd (upd u14.2 (u13).toNatClampNeg u14.1) (u15).toNatClampNeg 0) (u16).toNatClampNeg (-1), u2.2))))))))))))))))) fl 0 (upd (upd u2.1 ((2 : Int32).toNatClampNeg) ((u2.1 ((2 : Int32).toNatClampNeg)) + 1)) (u4).toNatClampNeg (((upd u2.1 ((2 : Int32).toNatClampNeg) ((u2.1 ((2 : Int32).toNatClampNeg)) + 1)) (u4).toNatClampNeg) + 1))))))))))))
theorem in_X9_bales_X9 : ∀ w ∈ u_ws RX9 TX9 22, w ∈ wsX9_bales := by decide +kernel
set_option maxRecDepth 100000 in
set_option maxHeartbeats 4000000 in
theorem c_X9_bales (l : Launch) (D : va_G) (cy : Nat → ClassId) (sd : xSd) (A : Nat → Nat) (mg : XRow) (mkept : XRow) (mspare : XRow) (mtrial : XRow) (mpast : XRow) (mreport : XRow) (mpart : XRow) (mcome : XRow) (morder : XRow) (mtext : XRow) (mtold : XRow) (mahead : XRow) (mhasKept : Int32) (mpasts : Int32) (mreports : Int32) (mthrown : Int32) (mordering : Int32) (mdetail : Int32) (mlength : Int32) (mspot : Int32) (mnumber : Int32) (mtolds : Int32) (p0 : Int32) {post : (XRow × XRow) → Prop} (hw : wp_X9_bales mg mpart p0 post) : Ctr l D (xTys cy) sd yX9_bales wsX9_bales ({ frames := 2, cells := 0, slots := 0, locals := 52 } : Room) [.ref (A 0), .int p0] (fun u : XRow × XRow => none) [((A 0), .inr (10, [.ref (A 1), .ref (A 2), .ref (A 3), .ref (A 4), .int mhasKept, .ref (A 5), .int mpasts, .ref (A 6), .int mreports, .int mthrown, .ref (A 7), .ref (A 8), .ref (A 9), .int mordering, .int mdetail, .ref (A 10), .int mlength, .int mspot, .int mnumber, .ref (A 11), .int mtolds, .ref (A 12)])), ((A 1), .inl (cy 0, 672, .inl mg)), ((A 2), .inl (cy 0, 672, .inl mkept)), ((A 3), .inl (cy 0, 672, .inl mspare)), ((A 4), .inl (cy 0, 672, .inl mtrial)), ((A 5), .inl (cy 0, 5376, .inl mpast)), ((A 6), .inl (cy 0, 6, .inl mreport)), ((A 7), .inl (cy 0, 5, .inl mpart)), ((A 8), .inl (cy 0, 5, .inl mcome)), ((A 9), .inl (cy 0, 60, .inl morder)), ((A 10), .inl (cy 0, 80, .inl mtext)), ((A 11), .inl (cy 0, 200, .inl mtold)), ((A 12), .inl (cy 0, 672, .inl mahead))] (fun u => [((A 0), .inr (10, [.ref (A 1), .ref (A 2), .ref (A 3), .ref (A 4), .int mhasKept, .ref (A 5), .int mpasts, .ref (A 6), .int mreports, .int mthrown, .ref (A 7), .ref (A 8), .ref (A 9), .int mordering, .int mdetail, .ref (A 10), .int mlength, .int mspot, .int mnumber, .ref (A 11), .int mtolds, .ref (A 12)])), ((A 1), .inl (cy 0, 672, .inl u.1)), ((A 2), .inl (cy 0, 672, .inl mkept)), ((A 3), .inl (cy 0, 672, .inl mspare)), ((A 4), .inl (cy 0, 672, .inl mtrial)), ((A 5), .inl (cy 0, 5376, .inl mpast)), ((A 6), .inl (cy 0, 6, .inl mreport)), ((A 7), .inl (cy 0, 5, .inl u.2)), ((A 8), .inl (cy 0, 5, .inl mcome)), ((A 9), .inl (cy 0, 60, .inl morder)), ((A 10), .inl (cy 0, 80, .inl mtext)), ((A 11), .inl (cy 0, 200, .inl mtold)), ((A 12), .inl (cy 0, 672, .inl mahead))]) post := by
  refine Ctr.of (cc := cX9_bales) (maxL := 4) (ret := none) (lv0 := [(0, .ref (A 0)), (1, .int p0)]) (by decide) rfl (Nat.le_of_ble_eq_true rfl) rfl ?_
  intro X El hR Er Enm ED E En K
  have K : Cx X cX9_bales RX9 wsX9_bales (xTys cy) sd := K
  have E : X.2.2.2.2.2.2.2.2.2.2.1 = xMQ X (fun u : XRow × XRow => none) post (fun u => [((A 0), .inr (10, [.ref (A 1), .ref (A 2), .ref (A 3), .ref (A 4), .int mhasKept, .ref (A 5), .int mpasts, .ref (A 6), .int mreports, .int mthrown, .ref (A 7), .ref (A 8), .ref (A 9), .int mordering, .int mdetail, .ref (A 10), .int mlength, .int mspot, .int mnumber, .ref (A 11), .int mtolds, .ref (A 12)])), ((A 1), .inl (cy 0, 672, .inl u.1)), ((A 2), .inl (cy 0, 672, .inl mkept)), ((A 3), .inl (cy 0, 672, .inl mspare)), ((A 4), .inl (cy 0, 672, .inl mtrial)), ((A 5), .inl (cy 0, 5376, .inl mpast)), ((A 6), .inl (cy 0, 6, .inl mreport)), ((A 7), .inl (cy 0, 5, .inl u.2)), ((A 8), .inl (cy 0, 5, .inl mcome)), ((A 9), .inl (cy 0, 60, .inl morder)), ((A 10), .inl (cy 0, 80, .inl mtext)), ((A 11), .inl (cy 0, 200, .inl mtold)), ((A 12), .inl (cy 0, 672, .inl mahead))]) 0 0 := E
  unfold wp_X9_bales at hw
  refine g_aload_n K 0 dX9_bales_0 rfl ?_
  refine g_iload_n K 1 dX9_bales_1 rfl ?_
  refine g_iconst (v := 5) K dX9_bales_2 rfl ?_
  refine g_callSr (st' := fun u1 => [.int u1, .ref (A 0)]) K hR [.int p0, .int 5] [.ref (A 0)] (c_X9_machineAt X.2.1 (gxD X) cy sd p0 5 hw) gX9_bales_X9_machineAt rfl yok_X9_machineAt rfl (by decide) rfl (Nat.le_of_ble_eq_true rfl) dX9_bales_3 [] rfl (by decide) (fun _ => rfl) ⟨rfl, rfl⟩ (fun u1 hw => ?_)
  refine g_aload_n K 0 dX9_bales_6 rfl ?_
  refine g_get K (C := RX9) (T := TX9) (N := 22) 0 0 in_X9_bales_X9 (by decide +kernel) rfl rfl (by decide) rfl dX9_bales_7 ?_
  refine g_bipush (v := 8) K dX9_bales_10 rfl ?_
  refine g_iald K 1 0 rfl rfl hw.1 dX9_bales_12 ?_
  replace hw := hw.2
  refine g_callV (st' := fun u2 => []) (ws' := fun u2 => [((A 0), .inr (10, [.ref (A 1), .ref (A 2), .ref (A 3), .ref (A 4), .int mhasKept, .ref (A 5), .int mpasts, .ref (A 6), .int mreports, .int mthrown, .ref (A 7), .ref (A 8), .ref (A 9), .int mordering, .int mdetail, .ref (A 10), .int mlength, .int mspot, .int mnumber, .ref (A 11), .int mtolds, .ref (A 12)])), ((A 1), .inl (cy 0, 672, .inl u2.1)), ((A 2), .inl (cy 0, 672, .inl mkept)), ((A 3), .inl (cy 0, 672, .inl mspare)), ((A 4), .inl (cy 0, 672, .inl mtrial)), ((A 5), .inl (cy 0, 5376, .inl mpast)), ((A 6), .inl (cy 0, 6, .inl mreport)), ((A 7), .inl (cy 0, 5, .inl u2.2)), ((A 8), .inl (cy 0, 5, .inl mcome)), ((A 9), .inl (cy 0, 60, .inl morder)), ((A 10), .inl (cy 0, 80, .inl mtext)), ((A 11), .inl (cy 0, 200, .inl mtold)), ((A 12), .inl (cy 0, 672, .inl mahead))]) K hR [.int u1, .int (mg ((8 : Int32).toNatClampNeg))] [] 0 rfl rfl (c_X9_takes X.2.1 (gxD X) cy sd A mg mkept mspare mtrial mpast mreport mpart mcome morder mtext mtold mahead mhasKept mpasts mreports mthrown mordering mdetail mlength mspot mnumber mtolds u1 (mg ((8 : Int32).toNatClampNeg)) hw) gX9_bales_X9_takes rfl yok_X9_takes rfl rfl (by decide) rfl (Nat.le_of_ble_eq_true rfl) dX9_bales_13 [0, 1, 2, 3, 4, 5, 6, 7, 8, 9, 10, 11, 12] rfl (by decide) (fun _ => rfl) (fun _ => rfl) (fun _ => rfl) ⟨rfl, rfl⟩ (fun u2 hw => ?_)
  refine g_aload_n K 0 dX9_bales_16 rfl ?_
  refine g_get K (C := RX9) (T := TX9) (N := 22) 0 0 in_X9_bales_X9 (by decide +kernel) rfl rfl (by decide) rfl dX9_bales_17 ?_
  refine g_iconst (v := 2) K dX9_bales_20 rfl ?_
  refine g_iald K 1 0 rfl rfl hw.1 dX9_bales_21 ?_
  replace hw := hw.2
  refine g_topi (fun x3 ex3 => ?_)
  replace hw := hw x3 ex3
  refine g_istore_n (lv' := [(2, .int x3), (0, .ref (A 0)), (1, .int p0)]) K dX9_bales_22 rfl (by rw [En]; decide) rfl ?_
  refine g_aload_n K 1 dX9_bales_23 rfl ?_
  refine g_get K (C := RX9) (T := TX9) (N := 22) 0 0 in_X9_bales_X9 (by decide +kernel) rfl rfl (by decide) rfl dX9_bales_24 ?_
  refine g_iconst (v := 2) K dX9_bales_27 rfl ?_
  refine g_dup2_11 K dX9_bales_28 rfl rfl ?_
  refine g_iald K 1 0 rfl rfl hw.1 dX9_bales_29 ?_
  replace hw := hw.2
  refine g_iconst (v := 1) K dX9_bales_30 rfl ?_
  refine g_iadd K dX9_bales_31 ?_
  refine g_iast (ws' := [((A 0), .inr (10, [.ref (A 1), .ref (A 2), .ref (A 3), .ref (A 4), .int mhasKept, .ref (A 5), .int mpasts, .ref (A 6), .int mreports, .int mthrown, .ref (A 7), .ref (A 8), .ref (A 9), .int mordering, .int mdetail, .ref (A 10), .int mlength, .int mspot, .int mnumber, .ref (A 11), .int mtolds, .ref (A 12)])), ((A 1), .inl (cy 0, 672, .inl (upd u2.1 ((2 : Int32).toNatClampNeg) ((u2.1 ((2 : Int32).toNatClampNeg)) + 1)))), ((A 2), .inl (cy 0, 672, .inl mkept)), ((A 3), .inl (cy 0, 672, .inl mspare)), ((A 4), .inl (cy 0, 672, .inl mtrial)), ((A 5), .inl (cy 0, 5376, .inl mpast)), ((A 6), .inl (cy 0, 6, .inl mreport)), ((A 7), .inl (cy 0, 5, .inl u2.2)), ((A 8), .inl (cy 0, 5, .inl mcome)), ((A 9), .inl (cy 0, 60, .inl morder)), ((A 10), .inl (cy 0, 80, .inl mtext)), ((A 11), .inl (cy 0, 200, .inl mtold)), ((A 12), .inl (cy 0, 672, .inl mahead))]) K 1 0 rfl rfl hw.1 rfl dX9_bales_32 ?_
  replace hw := hw.2
  refine g_aload_n K 1 dX9_bales_33 rfl ?_
  refine g_get K (C := RX9) (T := TX9) (N := 22) 0 0 in_X9_bales_X9 (by decide +kernel) rfl rfl (by decide) rfl dX9_bales_34 ?_
  refine g_iload_n K 2 dX9_bales_37 rfl ?_
  refine g_bipush (v := 10) K dX9_bales_38 rfl ?_
  refine g_callSr (st' := fun u4 => [.int u4, .ref (A 1)]) K hR [.int p0, .int 10] [.ref (A 1)] (c_X9_machineAt X.2.1 (gxD X) cy sd p0 10 hw) gX9_bales_X9_machineAt rfl yok_X9_machineAt rfl (by decide) rfl (Nat.le_of_ble_eq_true rfl) dX9_bales_40 [] rfl (by decide) (fun _ => rfl) ⟨rfl, rfl⟩ (fun u4 hw => ?_)
  refine g_dup2_11 K dX9_bales_43 rfl rfl ?_
  refine g_iald K 1 0 rfl rfl hw.1 dX9_bales_44 ?_
  replace hw := hw.2
  refine g_iconst (v := 1) K dX9_bales_45 rfl ?_
  refine g_iadd K dX9_bales_46 ?_
  refine g_iast (ws' := [((A 0), .inr (10, [.ref (A 1), .ref (A 2), .ref (A 3), .ref (A 4), .int mhasKept, .ref (A 5), .int mpasts, .ref (A 6), .int mreports, .int mthrown, .ref (A 7), .ref (A 8), .ref (A 9), .int mordering, .int mdetail, .ref (A 10), .int mlength, .int mspot, .int mnumber, .ref (A 11), .int mtolds, .ref (A 12)])), ((A 1), .inl (cy 0, 672, .inl (upd (upd u2.1 ((2 : Int32).toNatClampNeg) ((u2.1 ((2 : Int32).toNatClampNeg)) + 1)) (u4).toNatClampNeg (((upd u2.1 ((2 : Int32).toNatClampNeg) ((u2.1 ((2 : Int32).toNatClampNeg)) + 1)) (u4).toNatClampNeg) + 1)))), ((A 2), .inl (cy 0, 672, .inl mkept)), ((A 3), .inl (cy 0, 672, .inl mspare)), ((A 4), .inl (cy 0, 672, .inl mtrial)), ((A 5), .inl (cy 0, 5376, .inl mpast)), ((A 6), .inl (cy 0, 6, .inl mreport)), ((A 7), .inl (cy 0, 5, .inl u2.2)), ((A 8), .inl (cy 0, 5, .inl mcome)), ((A 9), .inl (cy 0, 60, .inl morder)), ((A 10), .inl (cy 0, 80, .inl mtext)), ((A 11), .inl (cy 0, 200, .inl mtold)), ((A 12), .inl (cy 0, 672, .inl mahead))]) K 1 0 rfl rfl hw.1 rfl dX9_bales_47 ?_
  replace hw := hw.2
  refine g_iconst (v := 0) K dX9_bales_48 rfl ?_
  refine g_istore_n (lv' := [(3, .int 0), (2, .int x3), (0, .ref (A 0)), (1, .int p0)]) K dX9_bales_49 rfl (by rw [En]; decide) rfl ?_
  obtain ⟨fl, hw⟩ := hw
  have key : ∀ (k50_77 : Int32 → XRow → Prop), (∀ (v5 : Int32) (v6 : XRow), k50_77 v5 v6 → Gx X 0 0 [((A 0), .inr (10, [.ref (A 1), .ref (A 2), .ref (A 3), .ref (A 4), .int mhasKept, .ref (A 5), .int mpasts, .ref (A 6), .int mreports, .int mthrown, .ref (A 7), .ref (A 8), .ref (A 9), .int mordering, .int mdetail, .ref (A 10), .int mlength, .int mspot, .int mnumber, .ref (A 11), .int mtolds, .ref (A 12)])), ((A 1), .inl (cy 0, 672, .inl v6)), ((A 2), .inl (cy 0, 672, .inl mkept)), ((A 3), .inl (cy 0, 672, .inl mspare)), ((A 4), .inl (cy 0, 672, .inl mtrial)), ((A 5), .inl (cy 0, 5376, .inl mpast)), ((A 6), .inl (cy 0, 6, .inl mreport)), ((A 7), .inl (cy 0, 5, .inl u2.2)), ((A 8), .inl (cy 0, 5, .inl mcome)), ((A 9), .inl (cy 0, 60, .inl morder)), ((A 10), .inl (cy 0, 80, .inl mtext)), ((A 11), .inl (cy 0, 200, .inl mtold)), ((A 12), .inl (cy 0, 672, .inl mahead))] [(3, .int v5), (2, .int x3), (0, .ref (A 0)), (1, .int p0)] 77 []) → ∀ (n : Nat) (v5 : Int32) (v6 : XRow), wp_X9_bales_L50 u2 x3 k50_77 n v5 v6 → Gx X 0 0 [((A 0), .inr (10, [.ref (A 1), .ref (A 2), .ref (A 3), .ref (A 4), .int mhasKept, .ref (A 5), .int mpasts, .ref (A 6), .int mreports, .int mthrown, .ref (A 7), .ref (A 8), .ref (A 9), .int mordering, .int mdetail, .ref (A 10), .int mlength, .int mspot, .int mnumber, .ref (A 11), .int mtolds, .ref (A 12)])), ((A 1), .inl (cy 0, 672, .inl v6)), ((A 2), .inl (cy 0, 672, .inl mkept)), ((A 3), .inl (cy 0, 672, .inl mspare)), ((A 4), .inl (cy 0, 672, .inl mtrial)), ((A 5), .inl (cy 0, 5376, .inl mpast)), ((A 6), .inl (cy 0, 6, .inl mreport)), ((A 7), .inl (cy 0, 5, .inl u2.2)), ((A 8), .inl (cy 0, 5, .inl mcome)), ((A 9), .inl (cy 0, 60, .inl morder)), ((A 10), .inl (cy 0, 80, .inl mtext)), ((A 11), .inl (cy 0, 200, .inl mtold)), ((A 12), .inl (cy 0, 672, .inl mahead))] [(3, .int v5), (2, .int x3), (0, .ref (A 0)), (1, .int p0)] 50 [] := by
    intro k50_77 hx77 n
    induction n with
    | zero => intro v5 v6 hw; exact hw.elim
    | succ n ih =>
      intro v5 v6 hw
      refine g_iload_n K 0 dX9_bales_50 rfl ?_
      refine g_iconst (v := 5) K dX9_bales_51 rfl ?_
      refine g_icmp_ge (tgt := 77) K dX9_bales_52 (by decide) (fun hc => ?_) (fun hc => ?_)
      · replace hw := hw.1 hc
        exact hx77 _ _ hw
      · replace hw := hw.2 hc
        refine g_aload_n K 2 dX9_bales_55 rfl ?_
        refine g_get K (C := RX9) (T := TX9) (N := 22) 0 0 in_X9_bales_X9 (by decide +kernel) rfl rfl (by decide) rfl dX9_bales_56 ?_
        refine g_iload_n K 1 dX9_bales_59 rfl ?_
        refine g_iload_n K 0 dX9_bales_60 rfl ?_
        refine g_callSr (st' := fun u7 => [.int u7, .ref (A 1)]) K hR [.int x3, .int v5] [.ref (A 1)] (c_X9_baleAt X.2.1 (gxD X) cy sd x3 v5 hw) gX9_bales_X9_baleAt rfl yok_X9_baleAt rfl (by decide) rfl (Nat.le_of_ble_eq_true rfl) dX9_bales_61 [] rfl (by decide) (fun _ => rfl) ⟨rfl, rfl⟩ (fun u7 hw => ?_)
        refine g_aload_n K 2 dX9_bales_64 rfl ?_
        refine g_get K (C := RX9) (T := TX9) (N := 22) 0 10 in_X9_bales_X9 (by decide +kernel) rfl rfl (by decide) rfl dX9_bales_65 ?_
        refine g_iload_n K 0 dX9_bales_68 rfl ?_
        refine g_iald K 7 0 rfl rfl hw.1 dX9_bales_69 ?_
        replace hw := hw.2
        refine g_iast (ws' := [((A 0), .inr (10, [.ref (A 1), .ref (A 2), .ref (A 3), .ref (A 4), .int mhasKept, .ref (A 5), .int mpasts, .ref (A 6), .int mreports, .int mthrown, .ref (A 7), .ref (A 8), .ref (A 9), .int mordering, .int mdetail, .ref (A 10), .int mlength, .int mspot, .int mnumber, .ref (A 11), .int mtolds, .ref (A 12)])), ((A 1), .inl (cy 0, 672, .inl (upd v6 (u7).toNatClampNeg (u2.2 (v5).toNatClampNeg)))), ((A 2), .inl (cy 0, 672, .inl mkept)), ((A 3), .inl (cy 0, 672, .inl mspare)), ((A 4), .inl (cy 0, 672, .inl mtrial)), ((A 5), .inl (cy 0, 5376, .inl mpast)), ((A 6), .inl (cy 0, 6, .inl mreport)), ((A 7), .inl (cy 0, 5, .inl u2.2)), ((A 8), .inl (cy 0, 5, .inl mcome)), ((A 9), .inl (cy 0, 60, .inl morder)), ((A 10), .inl (cy 0, 80, .inl mtext)), ((A 11), .inl (cy 0, 200, .inl mtold)), ((A 12), .inl (cy 0, 672, .inl mahead))]) K 1 0 rfl rfl hw.1 rfl dX9_bales_70 ?_
        replace hw := hw.2
        obtain ⟨x8, ex8⟩ : ∃ z : Int32, z = v5 + 1 := ⟨_, rfl⟩
        replace hw := hw x8 ex8
        refine g_iinc (v := x8) (lv' := [(3, .int x8), (2, .int x3), (0, .ref (A 0)), (1, .int p0)]) K 0 dX9_bales_71 rfl (by rw [ex8]; rfl) (by rw [En]; decide) rfl ?_
        refine g_goto (tgt := 50) K dX9_bales_74 (by decide) ?_
        exact ih _ _ hw
  refine key _ (fun v9 v10 hw => ?_) fl _ _ hw
  refine g_aload_n K 2 dX9_bales_77 rfl ?_
  refine g_get K (C := RX9) (T := TX9) (N := 22) 0 0 in_X9_bales_X9 (by decide +kernel) rfl rfl (by decide) rfl dX9_bales_78 ?_
  refine g_iload_n K 1 dX9_bales_81 rfl ?_
  refine g_iconst (v := 5) K dX9_bales_82 rfl ?_
  refine g_callSr (st' := fun u11 => [.int u11, .ref (A 1)]) K hR [.int x3, .int 5] [.ref (A 1)] (c_X9_baleAt X.2.1 (gxD X) cy sd x3 5 hw) gX9_bales_X9_baleAt rfl yok_X9_baleAt rfl (by decide) rfl (Nat.le_of_ble_eq_true rfl) dX9_bales_83 [] rfl (by decide) (fun _ => rfl) ⟨rfl, rfl⟩ (fun u11 hw => ?_)
  refine g_aload_n K 2 dX9_bales_86 rfl ?_
  refine g_get K (C := RX9) (T := TX9) (N := 22) 0 0 in_X9_bales_X9 (by decide +kernel) rfl rfl (by decide) rfl dX9_bales_87 ?_
  refine g_iload_n K 3 dX9_bales_90 rfl ?_
  refine g_iconst (v := 0) K dX9_bales_91 rfl ?_
  refine g_callSr (st' := fun u12 => [.int u12, .ref (A 1), .int u11, .ref (A 1)]) K hR [.int p0, .int 0] [.ref (A 1), .int u11, .ref (A 1)] (c_X9_machineAt X.2.1 (gxD X) cy sd p0 0 hw) gX9_bales_X9_machineAt rfl yok_X9_machineAt rfl (by decide) rfl (Nat.le_of_ble_eq_true rfl) dX9_bales_92 [] rfl (by decide) (fun _ => rfl) ⟨rfl, rfl⟩ (fun u12 hw => ?_)
  refine g_iald K 1 0 rfl rfl hw.1 dX9_bales_95 ?_
  replace hw := hw.2
  refine g_iast (ws' := [((A 0), .inr (10, [.ref (A 1), .ref (A 2), .ref (A 3), .ref (A 4), .int mhasKept, .ref (A 5), .int mpasts, .ref (A 6), .int mreports, .int mthrown, .ref (A 7), .ref (A 8), .ref (A 9), .int mordering, .int mdetail, .ref (A 10), .int mlength, .int mspot, .int mnumber, .ref (A 11), .int mtolds, .ref (A 12)])), ((A 1), .inl (cy 0, 672, .inl (upd v10 (u11).toNatClampNeg (v10 (u12).toNatClampNeg)))), ((A 2), .inl (cy 0, 672, .inl mkept)), ((A 3), .inl (cy 0, 672, .inl mspare)), ((A 4), .inl (cy 0, 672, .inl mtrial)), ((A 5), .inl (cy 0, 5376, .inl mpast)), ((A 6), .inl (cy 0, 6, .inl mreport)), ((A 7), .inl (cy 0, 5, .inl u2.2)), ((A 8), .inl (cy 0, 5, .inl mcome)), ((A 9), .inl (cy 0, 60, .inl morder)), ((A 10), .inl (cy 0, 80, .inl mtext)), ((A 11), .inl (cy 0, 200, .inl mtold)), ((A 12), .inl (cy 0, 672, .inl mahead))]) K 1 0 rfl rfl hw.1 rfl dX9_bales_96 ?_
  replace hw := hw.2
  refine g_aload_n K 2 dX9_bales_97 rfl ?_
  refine g_get K (C := RX9) (T := TX9) (N := 22) 0 0 in_X9_bales_X9 (by decide +kernel) rfl rfl (by decide) rfl dX9_bales_98 ?_
  refine g_iload_n K 1 dX9_bales_101 rfl ?_
  refine g_bipush (v := 6) K dX9_bales_102 rfl ?_
  refine g_callSr (st' := fun u13 => [.int u13, .ref (A 1)]) K hR [.int x3, .int 6] [.ref (A 1)] (c_X9_baleAt X.2.1 (gxD X) cy sd x3 6 hw) gX9_bales_X9_baleAt rfl yok_X9_baleAt rfl (by decide) rfl (Nat.le_of_ble_eq_true rfl) dX9_bales_104 [] rfl (by decide) (fun _ => rfl) ⟨rfl, rfl⟩ (fun u13 hw => ?_)
  refine g_aload_n K 2 dX9_bales_107 rfl ?_
  refine g_iload_n K 1 dX9_bales_108 rfl ?_
  refine g_aload_n K 2 dX9_bales_109 rfl ?_
  refine g_get K (C := RX9) (T := TX9) (N := 22) 0 0 in_X9_bales_X9 (by decide +kernel) rfl rfl (by decide) rfl dX9_bales_110 ?_
  refine g_bipush (v := 8) K dX9_bales_113 rfl ?_
  refine g_iald K 1 0 rfl rfl hw.1 dX9_bales_115 ?_
  replace hw := hw.2
  refine g_callV (st' := fun u14 => [.int u14.1, .int u13, .ref (A 1)]) (ws' := fun u14 => [((A 0), .inr (10, [.ref (A 1), .ref (A 2), .ref (A 3), .ref (A 4), .int mhasKept, .ref (A 5), .int mpasts, .ref (A 6), .int mreports, .int mthrown, .ref (A 7), .ref (A 8), .ref (A 9), .int mordering, .int mdetail, .ref (A 10), .int mlength, .int mspot, .int mnumber, .ref (A 11), .int mtolds, .ref (A 12)])), ((A 1), .inl (cy 0, 672, .inl u14.2)), ((A 2), .inl (cy 0, 672, .inl mkept)), ((A 3), .inl (cy 0, 672, .inl mspare)), ((A 4), .inl (cy 0, 672, .inl mtrial)), ((A 5), .inl (cy 0, 5376, .inl mpast)), ((A 6), .inl (cy 0, 6, .inl mreport)), ((A 7), .inl (cy 0, 5, .inl u2.2)), ((A 8), .inl (cy 0, 5, .inl mcome)), ((A 9), .inl (cy 0, 60, .inl morder)), ((A 10), .inl (cy 0, 80, .inl mtext)), ((A 11), .inl (cy 0, 200, .inl mtold)), ((A 12), .inl (cy 0, 672, .inl mahead))]) K hR [.int x3, .int ((upd v10 (u11).toNatClampNeg (v10 (u12).toNatClampNeg)) ((8 : Int32).toNatClampNeg))] [.int u13, .ref (A 1)] 0 rfl rfl (c_X9_samples X.2.1 (gxD X) cy sd A (upd v10 (u11).toNatClampNeg (v10 (u12).toNatClampNeg)) mkept mspare mtrial mpast mreport u2.2 mcome morder mtext mtold mahead mhasKept mpasts mreports mthrown mordering mdetail mlength mspot mnumber mtolds x3 ((upd v10 (u11).toNatClampNeg (v10 (u12).toNatClampNeg)) ((8 : Int32).toNatClampNeg)) hw) gX9_bales_X9_samples rfl yok_X9_samples rfl rfl (by decide) rfl (Nat.le_of_ble_eq_true rfl) dX9_bales_116 [0, 1, 2, 3, 4, 5, 6, 7, 8, 9, 10, 11, 12] rfl (by decide) (fun _ => rfl) (fun _ => rfl) (fun _ => rfl) ⟨rfl, rfl⟩ (fun u14 hw => ?_)
  refine g_iast (ws' := [((A 0), .inr (10, [.ref (A 1), .ref (A 2), .ref (A 3), .ref (A 4), .int mhasKept, .ref (A 5), .int mpasts, .ref (A 6), .int mreports, .int mthrown, .ref (A 7), .ref (A 8), .ref (A 9), .int mordering, .int mdetail, .ref (A 10), .int mlength, .int mspot, .int mnumber, .ref (A 11), .int mtolds, .ref (A 12)])), ((A 1), .inl (cy 0, 672, .inl (upd u14.2 (u13).toNatClampNeg u14.1))), ((A 2), .inl (cy 0, 672, .inl mkept)), ((A 3), .inl (cy 0, 672, .inl mspare)), ((A 4), .inl (cy 0, 672, .inl mtrial)), ((A 5), .inl (cy 0, 5376, .inl mpast)), ((A 6), .inl (cy 0, 6, .inl mreport)), ((A 7), .inl (cy 0, 5, .inl u2.2)), ((A 8), .inl (cy 0, 5, .inl mcome)), ((A 9), .inl (cy 0, 60, .inl morder)), ((A 10), .inl (cy 0, 80, .inl mtext)), ((A 11), .inl (cy 0, 200, .inl mtold)), ((A 12), .inl (cy 0, 672, .inl mahead))]) K 1 0 rfl rfl hw.1 rfl dX9_bales_119 ?_
  replace hw := hw.2
  refine g_aload_n K 2 dX9_bales_120 rfl ?_
  refine g_get K (C := RX9) (T := TX9) (N := 22) 0 0 in_X9_bales_X9 (by decide +kernel) rfl rfl (by decide) rfl dX9_bales_121 ?_
  refine g_iload_n K 1 dX9_bales_124 rfl ?_
  refine g_bipush (v := 7) K dX9_bales_125 rfl ?_
  refine g_callSr (st' := fun u15 => [.int u15, .ref (A 1)]) K hR [.int x3, .int 7] [.ref (A 1)] (c_X9_baleAt X.2.1 (gxD X) cy sd x3 7 hw) gX9_bales_X9_baleAt rfl yok_X9_baleAt rfl (by decide) rfl (Nat.le_of_ble_eq_true rfl) dX9_bales_127 [] rfl (by decide) (fun _ => rfl) ⟨rfl, rfl⟩ (fun u15 hw => ?_)
  refine g_iconst (v := 0) K dX9_bales_130 rfl ?_
  refine g_iast (ws' := [((A 0), .inr (10, [.ref (A 1), .ref (A 2), .ref (A 3), .ref (A 4), .int mhasKept, .ref (A 5), .int mpasts, .ref (A 6), .int mreports, .int mthrown, .ref (A 7), .ref (A 8), .ref (A 9), .int mordering, .int mdetail, .ref (A 10), .int mlength, .int mspot, .int mnumber, .ref (A 11), .int mtolds, .ref (A 12)])), ((A 1), .inl (cy 0, 672, .inl (upd (upd u14.2 (u13).toNatClampNeg u14.1) (u15).toNatClampNeg 0))), ((A 2), .inl (cy 0, 672, .inl mkept)), ((A 3), .inl (cy 0, 672, .inl mspare)), ((A 4), .inl (cy 0, 672, .inl mtrial)), ((A 5), .inl (cy 0, 5376, .inl mpast)), ((A 6), .inl (cy 0, 6, .inl mreport)), ((A 7), .inl (cy 0, 5, .inl u2.2)), ((A 8), .inl (cy 0, 5, .inl mcome)), ((A 9), .inl (cy 0, 60, .inl morder)), ((A 10), .inl (cy 0, 80, .inl mtext)), ((A 11), .inl (cy 0, 200, .inl mtold)), ((A 12), .inl (cy 0, 672, .inl mahead))]) K 1 0 rfl rfl hw.1 rfl dX9_bales_131 ?_
  replace hw := hw.2
  refine g_aload_n K 2 dX9_bales_132 rfl ?_
  refine g_get K (C := RX9) (T := TX9) (N := 22) 0 0 in_X9_bales_X9 (by decide +kernel) rfl rfl (by decide) rfl dX9_bales_133 ?_
  refine g_iload_n K 1 dX9_bales_136 rfl ?_
  refine g_bipush (v := 8) K dX9_bales_137 rfl ?_
  refine g_callSr (st' := fun u16 => [.int u16, .ref (A 1)]) K hR [.int x3, .int 8] [.ref (A 1)] (c_X9_baleAt X.2.1 (gxD X) cy sd x3 8 hw) gX9_bales_X9_baleAt rfl yok_X9_baleAt rfl (by decide) rfl (Nat.le_of_ble_eq_true rfl) dX9_bales_139 [] rfl (by decide) (fun _ => rfl) ⟨rfl, rfl⟩ (fun u16 hw => ?_)
  refine g_iconst (v := (-1)) K dX9_bales_142 rfl ?_
  refine g_iast (ws' := [((A 0), .inr (10, [.ref (A 1), .ref (A 2), .ref (A 3), .ref (A 4), .int mhasKept, .ref (A 5), .int mpasts, .ref (A 6), .int mreports, .int mthrown, .ref (A 7), .ref (A 8), .ref (A 9), .int mordering, .int mdetail, .ref (A 10), .int mlength, .int mspot, .int mnumber, .ref (A 11), .int mtolds, .ref (A 12)])), ((A 1), .inl (cy 0, 672, .inl (upd (upd (upd u14.2 (u13).toNatClampNeg u14.1) (u15).toNatClampNeg 0) (u16).toNatClampNeg (-1)))), ((A 2), .inl (cy 0, 672, .inl mkept)), ((A 3), .inl (cy 0, 672, .inl mspare)), ((A 4), .inl (cy 0, 672, .inl mtrial)), ((A 5), .inl (cy 0, 5376, .inl mpast)), ((A 6), .inl (cy 0, 6, .inl mreport)), ((A 7), .inl (cy 0, 5, .inl u2.2)), ((A 8), .inl (cy 0, 5, .inl mcome)), ((A 9), .inl (cy 0, 60, .inl morder)), ((A 10), .inl (cy 0, 80, .inl mtext)), ((A 11), .inl (cy 0, 200, .inl mtold)), ((A 12), .inl (cy 0, 672, .inl mahead))]) K 1 0 rfl rfl hw.1 rfl dX9_bales_143 ?_
  replace hw := hw.2
  refine g_aload_n K 2 dX9_bales_144 rfl ?_
  refine g_get K (C := RX9) (T := TX9) (N := 22) 0 0 in_X9_bales_X9 (by decide +kernel) rfl rfl (by decide) rfl dX9_bales_145 ?_
  refine g_bipush (v := 10) K dX9_bales_148 rfl ?_
  refine g_iald K 1 0 rfl rfl hw.1 dX9_bales_150 ?_
  replace hw := hw.2
  refine g_iconst (v := 1) K dX9_bales_151 rfl ?_
  refine g_icmp_ne (tgt := 211) K dX9_bales_152 (by decide) (fun hc => ?_) (fun hc => ?_)
  · replace hw := hw.2 hc
    exact g_vret K E Er (upd (upd (upd u14.2 (u13).toNatClampNeg u14.1) (u15).toNatClampNeg 0) (u16).toNatClampNeg (-1), u2.2) hw rfl rfl (Nat.le_refl _) (Nat.le_refl _) dX9_bales_211
  · replace hw := hw.1 hc
    refine g_aload_n K 2 dX9_bales_155 rfl ?_
    refine g_iload_n K 1 dX9_bales_156 rfl ?_
    refine g_callVr (st' := fun u17 => [.int u17]) K hR [.int x3] [] 0 rfl rfl (c_X9_grade X.2.1 (gxD X) cy sd A (upd (upd (upd u14.2 (u13).toNatClampNeg u14.1) (u15).toNatClampNeg 0) (u16).toNatClampNeg (-1)) mkept mspare mtrial mpast mreport u2.2 mcome morder mtext mtold mahead mhasKept mpasts mreports mthrown mordering mdetail mlength mspot mnumber mtolds x3 hw) gX9_bales_X9_grade rfl yok_X9_grade rfl rfl (by decide) rfl (Nat.le_of_ble_eq_true rfl) dX9_bales_157 [0, 1, 2, 3, 4, 5, 6, 7, 8, 9, 10, 11, 12] rfl (by decide) (fun _ => rfl) ⟨rfl, rfl⟩ (fun u17 hw => ?_)
    refine g_iconst (v := 3) K dX9_bales_160 rfl ?_
    refine g_icmp_ne (tgt := 211) K dX9_bales_161 (by decide) (fun hc => ?_) (fun hc => ?_)
    · replace hw := hw.2 hc
      exact g_vret K E Er (upd (upd (upd u14.2 (u13).toNatClampNeg u14.1) (u15).toNatClampNeg 0) (u16).toNatClampNeg (-1), u2.2) hw rfl rfl (Nat.le_refl _) (Nat.le_refl _) dX9_bales_211
    · replace hw := hw.1 hc
      refine g_aload_n K 2 dX9_bales_164 rfl ?_
      refine g_get K (C := RX9) (T := TX9) (N := 22) 0 0 in_X9_bales_X9 (by decide +kernel) rfl rfl (by decide) rfl dX9_bales_165 ?_
      refine g_iload_n K 1 dX9_bales_168 rfl ?_
      refine g_bipush (v := 7) K dX9_bales_169 rfl ?_
      refine g_callSr (st' := fun u18 => [.int u18, .ref (A 1)]) K hR [.int x3, .int 7] [.ref (A 1)] (c_X9_baleAt X.2.1 (gxD X) cy sd x3 7 hw) gX9_bales_X9_baleAt rfl yok_X9_baleAt rfl (by decide) rfl (Nat.le_of_ble_eq_true rfl) dX9_bales_171 [] rfl (by decide) (fun _ => rfl) ⟨rfl, rfl⟩ (fun u18 hw => ?_)
      refine g_iconst (v := 2) K dX9_bales_174 rfl ?_
      refine g_iast (ws' := [((A 0), .inr (10, [.ref (A 1), .ref (A 2), .ref (A 3), .ref (A 4), .int mhasKept, .ref (A 5), .int mpasts, .ref (A 6), .int mreports, .int mthrown, .ref (A 7), .ref (A 8), .ref (A 9), .int mordering, .int mdetail, .ref (A 10), .int mlength, .int mspot, .int mnumber, .ref (A 11), .int mtolds, .ref (A 12)])), ((A 1), .inl (cy 0, 672, .inl (upd (upd (upd (upd u14.2 (u13).toNatClampNeg u14.1) (u15).toNatClampNeg 0) (u16).toNatClampNeg (-1)) (u18).toNatClampNeg 2))), ((A 2), .inl (cy 0, 672, .inl mkept)), ((A 3), .inl (cy 0, 672, .inl mspare)), ((A 4), .inl (cy 0, 672, .inl mtrial)), ((A 5), .inl (cy 0, 5376, .inl mpast)), ((A 6), .inl (cy 0, 6, .inl mreport)), ((A 7), .inl (cy 0, 5, .inl u2.2)), ((A 8), .inl (cy 0, 5, .inl mcome)), ((A 9), .inl (cy 0, 60, .inl morder)), ((A 10), .inl (cy 0, 80, .inl mtext)), ((A 11), .inl (cy 0, 200, .inl mtold)), ((A 12), .inl (cy 0, 672, .inl mahead))]) K 1 0 rfl rfl hw.1 rfl dX9_bales_175 ?_
      replace hw := hw.2
      refine g_iconst (v := 0) K dX9_bales_176 rfl ?_
      refine g_istore_n (lv' := [(3, .int 0), (2, .int x3), (0, .ref (A 0)), (1, .int p0)]) K dX9_bales_177 rfl (by rw [En]; decide) rfl ?_
      obtain ⟨fl, hw⟩ := hw
      have key : ∀ (k178_211 : Int32 → XRow → Prop), (∀ (v19 : Int32) (v20 : XRow), k178_211 v19 v20 → Gx X 0 0 [((A 0), .inr (10, [.ref (A 1), .ref (A 2), .ref (A 3), .ref (A 4), .int mhasKept, .ref (A 5), .int mpasts, .ref (A 6), .int mreports, .int mthrown, .ref (A 7), .ref (A 8), .ref (A 9), .int mordering, .int mdetail, .ref (A 10), .int mlength, .int mspot, .int mnumber, .ref (A 11), .int mtolds, .ref (A 12)])), ((A 1), .inl (cy 0, 672, .inl v20)), ((A 2), .inl (cy 0, 672, .inl mkept)), ((A 3), .inl (cy 0, 672, .inl mspare)), ((A 4), .inl (cy 0, 672, .inl mtrial)), ((A 5), .inl (cy 0, 5376, .inl mpast)), ((A 6), .inl (cy 0, 6, .inl mreport)), ((A 7), .inl (cy 0, 5, .inl u2.2)), ((A 8), .inl (cy 0, 5, .inl mcome)), ((A 9), .inl (cy 0, 60, .inl morder)), ((A 10), .inl (cy 0, 80, .inl mtext)), ((A 11), .inl (cy 0, 200, .inl mtold)), ((A 12), .inl (cy 0, 672, .inl mahead))] [(3, .int v19), (2, .int x3), (0, .ref (A 0)), (1, .int p0)] 211 []) → ∀ (n : Nat) (v19 : Int32) (v20 : XRow), wp_X9_bales_L178 x3 k178_211 n v19 v20 → Gx X 0 0 [((A 0), .inr (10, [.ref (A 1), .ref (A 2), .ref (A 3), .ref (A 4), .int mhasKept, .ref (A 5), .int mpasts, .ref (A 6), .int mreports, .int mthrown, .ref (A 7), .ref (A 8), .ref (A 9), .int mordering, .int mdetail, .ref (A 10), .int mlength, .int mspot, .int mnumber, .ref (A 11), .int mtolds, .ref (A 12)])), ((A 1), .inl (cy 0, 672, .inl v20)), ((A 2), .inl (cy 0, 672, .inl mkept)), ((A 3), .inl (cy 0, 672, .inl mspare)), ((A 4), .inl (cy 0, 672, .inl mtrial)), ((A 5), .inl (cy 0, 5376, .inl mpast)), ((A 6), .inl (cy 0, 6, .inl mreport)), ((A 7), .inl (cy 0, 5, .inl u2.2)), ((A 8), .inl (cy 0, 5, .inl mcome)), ((A 9), .inl (cy 0, 60, .inl morder)), ((A 10), .inl (cy 0, 80, .inl mtext)), ((A 11), .inl (cy 0, 200, .inl mtold)), ((A 12), .inl (cy 0, 672, .inl mahead))] [(3, .int v19), (2, .int x3), (0, .ref (A 0)), (1, .int p0)] 178 [] := by
        intro k178_211 hx211 n
        induction n with
        | zero => intro v19 v20 hw; exact hw.elim
        | succ n ih =>
          intro v19 v20 hw
          refine g_iload_n K 0 dX9_bales_178 rfl ?_
          refine g_iconst (v := 5) K dX9_bales_179 rfl ?_
          refine g_icmp_ge (tgt := 211) K dX9_bales_180 (by decide) (fun hc => ?_) (fun hc => ?_)
          · replace hw := hw.1 hc
            exact hx211 _ _ hw
          · replace hw := hw.2 hc
            refine g_aload_n K 2 dX9_bales_183 rfl ?_
            refine g_get K (C := RX9) (T := TX9) (N := 22) 0 0 in_X9_bales_X9 (by decide +kernel) rfl rfl (by decide) rfl dX9_bales_184 ?_
            refine g_bipush (v := 11) K dX9_bales_187 rfl ?_
            refine g_iload_n K 0 dX9_bales_189 rfl ?_
            refine g_iadd K dX9_bales_190 ?_
            refine g_dup2_11 K dX9_bales_191 rfl rfl ?_
            refine g_iald K 1 0 rfl rfl hw.1 dX9_bales_192 ?_
            replace hw := hw.2
            refine g_aload_n K 2 dX9_bales_193 rfl ?_
            refine g_get K (C := RX9) (T := TX9) (N := 22) 0 0 in_X9_bales_X9 (by decide +kernel) rfl rfl (by decide) rfl dX9_bales_194 ?_
            refine g_iload_n K 1 dX9_bales_197 rfl ?_
            refine g_iload_n K 0 dX9_bales_198 rfl ?_
            refine g_callSr (st' := fun u21 => [.int u21, .ref (A 1), .int (v20 (11 + v19).toNatClampNeg), .int (11 + v19), .ref (A 1)]) K hR [.int x3, .int v19] [.ref (A 1), .int (v20 (11 + v19).toNatClampNeg), .int (11 + v19), .ref (A 1)] (c_X9_baleAt X.2.1 (gxD X) cy sd x3 v19 hw) gX9_bales_X9_baleAt rfl yok_X9_baleAt rfl (by decide) rfl (Nat.le_of_ble_eq_true rfl) dX9_bales_199 [] rfl (by decide) (fun _ => rfl) ⟨rfl, rfl⟩ (fun u21 hw => ?_)
            refine g_iald K 1 0 rfl rfl hw.1 dX9_bales_202 ?_
            replace hw := hw.2
            refine g_iadd K dX9_bales_203 ?_
            refine g_iast (ws' := [((A 0), .inr (10, [.ref (A 1), .ref (A 2), .ref (A 3), .ref (A 4), .int mhasKept, .ref (A 5), .int mpasts, .ref (A 6), .int mreports, .int mthrown, .ref (A 7), .ref (A 8), .ref (A 9), .int mordering, .int mdetail, .ref (A 10), .int mlength, .int mspot, .int mnumber, .ref (A 11), .int mtolds, .ref (A 12)])), ((A 1), .inl (cy 0, 672, .inl (upd v20 (11 + v19).toNatClampNeg ((v20 (11 + v19).toNatClampNeg) + (v20 (u21).toNatClampNeg))))), ((A 2), .inl (cy 0, 672, .inl mkept)), ((A 3), .inl (cy 0, 672, .inl mspare)), ((A 4), .inl (cy 0, 672, .inl mtrial)), ((A 5), .inl (cy 0, 5376, .inl mpast)), ((A 6), .inl (cy 0, 6, .inl mreport)), ((A 7), .inl (cy 0, 5, .inl u2.2)), ((A 8), .inl (cy 0, 5, .inl mcome)), ((A 9), .inl (cy 0, 60, .inl morder)), ((A 10), .inl (cy 0, 80, .inl mtext)), ((A 11), .inl (cy 0, 200, .inl mtold)), ((A 12), .inl (cy 0, 672, .inl mahead))]) K 1 0 rfl rfl hw.1 rfl dX9_bales_204 ?_
            replace hw := hw.2
            obtain ⟨x22, ex22⟩ : ∃ z : Int32, z = v19 + 1 := ⟨_, rfl⟩
            replace hw := hw x22 ex22
            refine g_iinc (v := x22) (lv' := [(3, .int x22), (2, .int x3), (0, .ref (A 0)), (1, .int p0)]) K 0 dX9_bales_205 rfl (by rw [ex22]; rfl) (by rw [En]; decide) rfl ?_
            refine g_goto (tgt := 178) K dX9_bales_208 (by decide) ?_
            exact ih _ _ hw
      refine key _ (fun v23 v24 hw => ?_) fl _ _ hw
      exact g_vret K E Er (v24, u2.2) hw rfl rfl (Nat.le_refl _) (Nat.le_refl _) dX9_bales_211

def wp_X9_passes_L37 (u2 : XRow × XRow) (k37_60 : Int32 → XRow → Prop) : Nat → Int32 → XRow → Prop
  | 0, _, _ => False
  | fu + 1, v3, v4 => (5 ≤ v3 → (k37_60 v3 v4)) ∧ (¬ 5 ≤ v3 → (vp_in v3 5 ∧ (vp_in v3 5 ∧ (∀ x5 : Int32, x5 = v3 + 1 → (wp_X9_passes_L37 u2 k37_60 fu x5 (upd v4 (v3).toNatClampNeg (u2.2 (v3).toNatClampNeg)))))))
def wp_X9_passes_L110 (x11 : Int32) (v8 : Int32) (k110_195 : Int32 → XRow → XRow → Prop) : Nat → Int32 → XRow → XRow → Prop
  | 0, _, _, _ => False
  | fu + 1, v12, v13, v14 => (5 ≤ v12 → (k110_195 v12 v13 v14)) ∧ (¬ 5 ≤ v12 → (vp_in v12 5 ∧ (wp_X9_machineAt v8 0 (fun u15 : Int32 => vp_in u15 672 ∧ ((v12 = (v13 (u15).toNatClampNeg) → (wp_X9_catches v13 v8 x11 (fun u20 : Int32 => ∀ x21 : Int32, x21 = ((v14 (v12).toNatClampNeg) * u20) / 100 → (wp_X9_machineAt v8 (5 + v12) (fun u22 : Int32 => vp_in u22 672 ∧ (vp_in u22 672 ∧ (vp_in v12 5 ∧ (vp_in v12 5 ∧ (∀ x23 : Int32, x23 = v12 + 1 → (wp_X9_passes_L110 x11 v8 k110_195 fu x23 (upd v13 (u22).toNatClampNeg ((v13 (u22).toNatClampNeg) + x21)) (upd v14 (v12).toNatClampNeg ((v14 (v12).toNatClampNeg) - x21)))))))))))) ∧ (¬ v12 = (v13 (u15).toNatClampNeg) → (wp_X9_mistakes v13 v8 x11 (fun u16 : Int32 => ∀ x17 : Int32, x17 = ((v14 (v12).toNatClampNeg) * u16) / 100 → (wp_X9_machineAt v8 (5 + v12) (fun u18 : Int32 => vp_in u18 672 ∧ (vp_in u18 672 ∧ (vp_in v12 5 ∧ (vp_in v12 5 ∧ (∀ x19 : Int32, x19 = v12 + 1 → (wp_X9_passes_L110 x11 v8 k110_195 fu x19 (upd v13 (u18).toNatClampNeg ((v13 (u18).toNatClampNeg) + x17)) (upd v14 (v12).toNatClampNeg ((v14 (v12).toNatClampNeg) - x17)))))))))))))))))
def wp_X9_passes_L62  (k62_201 : Int32 → XRow → XRow → Prop) : Nat → Int32 → XRow → XRow → Prop
  | 0, _, _, _ => False
  | fu + 1, v8, v9, v10 => vp_in 0 672 ∧ (((v9 ((0 : Int32).toNatClampNeg)) ≤ v8 → (k62_201 v8 v9 v10)) ∧ (¬ (v9 ((0 : Int32).toNatClampNeg)) ≤ v8 → (vp_in 0 5 ∧ (vp_in 1 5 ∧ (vp_in 2 5 ∧ (vp_in 3 5 ∧ (vp_in 4 5 ∧ (∀ x11 : Int32, x11 = ((((v10 ((0 : Int32).toNatClampNeg)) + (v10 ((1 : Int32).toNatClampNeg))) + (v10 ((2 : Int32).toNatClampNeg))) + (v10 ((3 : Int32).toNatClampNeg))) + (v10 ((4 : Int32).toNatClampNeg)) → (∃ fl, wp_X9_passes_L110 x11 v8 (fun (v24 : Int32) (v25 : XRow) (v26 : XRow) => ∀ x27 : Int32, x27 = v8 + 1 → (wp_X9_passes_L62 k62_201 fu x27 v25 v26)) fl 0 v9 v10)))))))))
def wp_X9_passes_L203 (v30 : XRow) (k203_265 : Int32 → XRow → Prop) : Nat → Int32 → XRow → Prop
  | 0, _, _ => False
  | fu + 1, v31, v32 => (5 ≤ v31 → (k203_265 v31 v32)) ∧ (¬ 5 ≤ v31 → (vp_in v31 5 ∧ (vp_in 7 672 ∧ (∀ x33 : Int32, x33 = ((v30 (v31).toNatClampNeg) * (v32 ((7 : Int32).toNatClampNeg))) / 100 → (vp_in (11 + v31) 672 ∧ (vp_in (11 + v31) 672 ∧ (vp_in (16 + v31) 672 ∧ (vp_in v31 5 ∧ (vp_in (16 + v31) 672 ∧ (∀ x34 : Int32, x34 = v31 + 1 → (wp_X9_passes_L203 v30 k203_265 fu x34 (upd (upd v32 (11 + v31).toNatClampNeg ((v32 (11 + v31).toNatClampNeg) + x33)) (16 + v31).toNatClampNeg (((upd v32 (11 + v31).toNatClampNeg ((v32 (11 + v31).toNatClampNeg) + x33)) (16 + v31).toNatClampNeg) + ((v30 (v31).toNatClampNeg) - x33))))))))))))))
def wp_X9_passes_L277 (v37 : Int32) (k277_315 : XRow → XRow → Prop) : Nat → XRow → XRow → Prop
  | 0, _, _ => False
  | fu + 1, v40, v41 => wp_X9_machineAt v37 5 (fun u42 : Int32 => wp_X9_sum v40 u42 (fun u43 : Int32 => vp_in 8 672 ∧ ((u43 < (v40 ((8 : Int32).toNatClampNeg)) → (k277_315 v40 v41)) ∧ (¬ u43 < (v40 ((8 : Int32).toNatClampNeg)) → (vp_in 2 672 ∧ ((60 ≤ (v40 ((2 : Int32).toNatClampNeg)) → (k277_315 v40 v41)) ∧ (¬ 60 ≤ (v40 ((2 : Int32).toNatClampNeg)) → (wp_X9_bales v40 v41 v37 (fun u44 : XRow × XRow => wp_X9_passes_L277 v37 k277_315 fu u44.1 u44.2)))))))))
def wp_X9_passes_L267  (k267_321 : Int32 → XRow → XRow → Prop) : Nat → Int32 → XRow → XRow → Prop
  | 0, _, _, _ => False
  | fu + 1, v37, v38, v39 => vp_in 0 672 ∧ (((v38 ((0 : Int32).toNatClampNeg)) ≤ v37 → (k267_321 v37 v38 v39)) ∧ (¬ (v38 ((0 : Int32).toNatClampNeg)) ≤ v37 → (∃ fl, wp_X9_passes_L277 v37 (fun (v45 : XRow) (v46 : XRow) => ∀ x47 : Int32, x47 = v37 + 1 → (wp_X9_passes_L267 k267_321 fu x47 v45 v46)) fl v38 v39)))
def wp_X9_passes_L37_1 (u51 : XRow × XRow) (k37_60 : Int32 → XRow → Prop) : Nat → Int32 → XRow → Prop
  | 0, _, _ => False
  | fu + 1, v52, v53 => (5 ≤ v52 → (k37_60 v52 v53)) ∧ (¬ 5 ≤ v52 → (vp_in v52 5 ∧ (vp_in v52 5 ∧ (∀ x54 : Int32, x54 = v52 + 1 → (wp_X9_passes_L37_1 u51 k37_60 fu x54 (upd v53 (v52).toNatClampNeg (u51.2 (v52).toNatClampNeg)))))))
def wp_X9_passes_L110_1 (x60 : Int32) (v57 : Int32) (k110_195 : Int32 → XRow → XRow → Prop) : Nat → Int32 → XRow → XRow → Prop
  | 0, _, _, _ => False
  | fu + 1, v61, v62, v63 => (5 ≤ v61 → (k110_195 v61 v62 v63)) ∧ (¬ 5 ≤ v61 → (vp_in v61 5 ∧ (wp_X9_machineAt v57 0 (fun u64 : Int32 => vp_in u64 672 ∧ ((v61 = (v62 (u64).toNatClampNeg) → (wp_X9_catches v62 v57 x60 (fun u69 : Int32 => ∀ x70 : Int32, x70 = ((v63 (v61).toNatClampNeg) * u69) / 100 → (wp_X9_machineAt v57 (5 + v61) (fun u71 : Int32 => vp_in u71 672 ∧ (vp_in u71 672 ∧ (vp_in v61 5 ∧ (vp_in v61 5 ∧ (∀ x72 : Int32, x72 = v61 + 1 → (wp_X9_passes_L110_1 x60 v57 k110_195 fu x72 (upd v62 (u71).toNatClampNeg ((v62 (u71).toNatClampNeg) + x70)) (upd v63 (v61).toNatClampNeg ((v63 (v61).toNatClampNeg) - x70)))))))))))) ∧ (¬ v61 = (v62 (u64).toNatClampNeg) → (wp_X9_mistakes v62 v57 x60 (fun u65 : Int32 => ∀ x66 : Int32, x66 = ((v63 (v61).toNatClampNeg) * u65) / 100 → (wp_X9_machineAt v57 (5 + v61) (fun u67 : Int32 => vp_in u67 672 ∧ (vp_in u67 672 ∧ (vp_in v61 5 ∧ (vp_in v61 5 ∧ (∀ x68 : Int32, x68 = v61 + 1 → (wp_X9_passes_L110_1 x60 v57 k110_195 fu x68 (upd v62 (u67).toNatClampNeg ((v62 (u67).toNatClampNeg) + x66)) (upd v63 (v61).toNatClampNeg ((v63 (v61).toNatClampNeg) - x66)))))))))))))))))
def wp_X9_passes_L62_1  (k62_201 : Int32 → XRow → XRow → Prop) : Nat → Int32 → XRow → XRow → Prop
  | 0, _, _, _ => False
  | fu + 1, v57, v58, v59 => vp_in 0 672 ∧ (((v58 ((0 : Int32).toNatClampNeg)) ≤ v57 → (k62_201 v57 v58 v59)) ∧ (¬ (v58 ((0 : Int32).toNatClampNeg)) ≤ v57 → (vp_in 0 5 ∧ (vp_in 1 5 ∧ (vp_in 2 5 ∧ (vp_in 3 5 ∧ (vp_in 4 5 ∧ (∀ x60 : Int32, x60 = ((((v59 ((0 : Int32).toNatClampNeg)) + (v59 ((1 : Int32).toNatClampNeg))) + (v59 ((2 : Int32).toNatClampNeg))) + (v59 ((3 : Int32).toNatClampNeg))) + (v59 ((4 : Int32).toNatClampNeg)) → (∃ fl, wp_X9_passes_L110_1 x60 v57 (fun (v73 : Int32) (v74 : XRow) (v75 : XRow) => ∀ x76 : Int32, x76 = v57 + 1 → (wp_X9_passes_L62_1 k62_201 fu x76 v74 v75)) fl 0 v58 v59)))))))))
def wp_X9_passes_L203_1 (v79 : XRow) (k203_265 : Int32 → XRow → Prop) : Nat → Int32 → XRow → Prop
  | 0, _, _ => False
  | fu + 1, v80, v81 => (5 ≤ v80 → (k203_265 v80 v81)) ∧ (¬ 5 ≤ v80 → (vp_in v80 5 ∧ (vp_in 7 672 ∧ (∀ x82 : Int32, x82 = ((v79 (v80).toNatClampNeg) * (v81 ((7 : Int32).toNatClampNeg))) / 100 → (vp_in (11 + v80) 672 ∧ (vp_in (11 + v80) 672 ∧ (vp_in (16 + v80) 672 ∧ (vp_in v80 5 ∧ (vp_in (16 + v80) 672 ∧ (∀ x83 : Int32, x83 = v80 + 1 → (wp_X9_passes_L203_1 v79 k203_265 fu x83 (upd (upd v81 (11 + v80).toNatClampNeg ((v81 (11 + v80).toNatClampNeg) + x82)) (16 + v80).toNatClampNeg (((upd v81 (11 + v80).toNatClampNeg ((v81 (11 + v80).toNatClampNeg) + x82)) (16 + v80).toNatClampNeg) + ((v79 (v80).toNatClampNeg) - x82))))))))))))))
def wp_X9_passes_L277_1 (v86 : Int32) (k277_315 : XRow → XRow → Prop) : Nat → XRow → XRow → Prop
  | 0, _, _ => False
  | fu + 1, v89, v90 => wp_X9_machineAt v86 5 (fun u91 : Int32 => wp_X9_sum v89 u91 (fun u92 : Int32 => vp_in 8 672 ∧ ((u92 < (v89 ((8 : Int32).toNatClampNeg)) → (k277_315 v89 v90)) ∧ (¬ u92 < (v89 ((8 : Int32).toNatClampNeg)) → (vp_in 2 672 ∧ ((60 ≤ (v89 ((2 : Int32).toNatClampNeg)) → (k277_315 v89 v90)) ∧ (¬ 60 ≤ (v89 ((2 : Int32).toNatClampNeg)) → (wp_X9_bales v89 v90 v86 (fun u93 : XRow × XRow => wp_X9_passes_L277_1 v86 k277_315 fu u93.1 u93.2)))))))))
def wp_X9_passes_L267_1  (k267_321 : Int32 → XRow → XRow → Prop) : Nat → Int32 → XRow → XRow → Prop
  | 0, _, _, _ => False
  | fu + 1, v86, v87, v88 => vp_in 0 672 ∧ (((v87 ((0 : Int32).toNatClampNeg)) ≤ v86 → (k267_321 v86 v87 v88)) ∧ (¬ (v87 ((0 : Int32).toNatClampNeg)) ≤ v86 → (∃ fl, wp_X9_passes_L277_1 v86 (fun (v94 : XRow) (v95 : XRow) => ∀ x96 : Int32, x96 = v86 + 1 → (wp_X9_passes_L267_1 k267_321 fu x96 v94 v95)) fl v87 v88)))
def wp_X9_passes (mg : XRow) (mpart : XRow) (mcome : XRow) (post : (XRow × XRow × XRow) → Prop) : Prop := wp_X9_sum mg 11 (fun u1 : Int32 => vp_in 6 672 ∧ (((mg ((6 : Int32).toNatClampNeg)) ≤ u1 → (vp_in 6 672 ∧ (wp_X9_takes mg mpart 11 (mg ((6 : Int32).toNatClampNeg)) (fun u2 : XRow × XRow => ∃ fl, wp_X9_passes_L37 u2 (fun (v6 : Int32) (v7 : XRow) => ∃ fl, wp_X9_passes_L62  (fun (v28 : Int32) (v29 : XRow) (v30 : XRow) => ∃ fl, wp_X9_passes_L203 v30 (fun (v35 : Int32) (v36 : XRow) => ∃ fl, wp_X9_passes_L267  (fun (v48 : Int32) (v49 : XRow) (v50 : XRow) => vp_in 4 672 ∧ (vp_in 4 672 ∧ (post (upd v49 ((4 : Int32).toNatClampNeg) ((v49 ((4 : Int32).toNatClampNeg)) + 1), v50, v30)))) fl 0 v36 u2.2) fl 0 v29) fl 0 u2.1 v7) fl 0 mcome)))) ∧ (¬ (mg ((6 : Int32).toNatClampNeg)) ≤ u1 → (wp_X9_takes mg mpart 11 u1 (fun u51 : XRow × XRow => ∃ fl, wp_X9_passes_L37_1 u51 (fun (v55 : Int32) (v56 : XRow) => ∃ fl, wp_X9_passes_L62_1  (fun (v77 : Int32) (v78 : XRow) (v79 : XRow) => ∃ fl, wp_X9_passes_L203_1 v79 (fun (v84 : Int32) (v85 : XRow) => ∃ fl, wp_X9_passes_L267_1  (fun (v97 : Int32) (v98 : XRow) (v99 : XRow) => vp_in 4 672 ∧ (vp_in 4 672 ∧ (post (upd v98 ((4 : Int32).toNatClampNeg) ((v98 ((4 : Int32).toNatClampNeg)) + 1), v99, v79)))) fl 0 v85 u51.2) fl 0 v78) fl 0 u51.1 v56) fl 0 mcome)))))
theorem in_X9_passes_X9 : ∀ w ∈ u_ws RX9 TX9 22, w ∈ wsX9_passes := by decide +kernel
set_option maxRecDepth 100000 in
set_option maxHeartbeats 4000000 in
theorem c_X9_passes (l : Launch) (D : va_G) (cy : Nat → ClassId) (sd : xSd) (A : Nat → Nat) (mg : XRow) (mkept : XRow) (mspare : XRow) (mtrial : XRow) (mpast : XRow) (mreport : XRow) (mpart : XRow) (mcome : XRow) (morder : XRow) (mtext : XRow) (mtold : XRow) (mahead : XRow) (mhasKept : Int32) (mpasts : Int32) (mreports : Int32) (mthrown : Int32) (mordering : Int32) (mdetail : Int32) (mlength : Int32) (mspot : Int32) (mnumber : Int32) (mtolds : Int32) {post : (XRow × XRow × XRow) → Prop} (hw : wp_X9_passes mg mpart mcome post) : Ctr l D (xTys cy) sd yX9_passes wsX9_passes ({ frames := 3, cells := 0, slots := 0, locals := 75 } : Room) [.ref (A 0)] (fun u : XRow × XRow × XRow => none) [((A 0), .inr (10, [.ref (A 1), .ref (A 2), .ref (A 3), .ref (A 4), .int mhasKept, .ref (A 5), .int mpasts, .ref (A 6), .int mreports, .int mthrown, .ref (A 7), .ref (A 8), .ref (A 9), .int mordering, .int mdetail, .ref (A 10), .int mlength, .int mspot, .int mnumber, .ref (A 11), .int mtolds, .ref (A 12)])), ((A 1), .inl (cy 0, 672, .inl mg)), ((A 2), .inl (cy 0, 672, .inl mkept)), ((A 3), .inl (cy 0, 672, .inl mspare)), ((A 4), .inl (cy 0, 672, .inl mtrial)), ((A 5), .inl (cy 0, 5376, .inl mpast)), ((A 6), .inl (cy 0, 6, .inl mreport)), ((A 7), .inl (cy 0, 5, .inl mpart)), ((A 8), .inl (cy 0, 5, .inl mcome)), ((A 9), .inl (cy 0, 60, .inl morder)), ((A 10), .inl (cy 0, 80, .inl mtext)), ((A 11), .inl (cy 0, 200, .inl mtold)), ((A 12), .inl (cy 0, 672, .inl mahead))] (fun u => [((A 0), .inr (10, [.ref (A 1), .ref (A 2), .ref (A 3), .ref (A 4), .int mhasKept, .ref (A 5), .int mpasts, .ref (A 6), .int mreports, .int mthrown, .ref (A 7), .ref (A 8), .ref (A 9), .int mordering, .int mdetail, .ref (A 10), .int mlength, .int mspot, .int mnumber, .ref (A 11), .int mtolds, .ref (A 12)])), ((A 1), .inl (cy 0, 672, .inl u.1)), ((A 2), .inl (cy 0, 672, .inl mkept)), ((A 3), .inl (cy 0, 672, .inl mspare)), ((A 4), .inl (cy 0, 672, .inl mtrial)), ((A 5), .inl (cy 0, 5376, .inl mpast)), ((A 6), .inl (cy 0, 6, .inl mreport)), ((A 7), .inl (cy 0, 5, .inl u.2.1)), ((A 8), .inl (cy 0, 5, .inl u.2.2)), ((A 9), .inl (cy 0, 60, .inl morder)), ((A 10), .inl (cy 0, 80, .inl mtext)), ((A 11), .inl (cy 0, 200, .inl mtold)), ((A 12), .inl (cy 0, 672, .inl mahead))]) post := by
  refine Ctr.of (cc := cX9_passes) (maxL := 6) (ret := none) (lv0 := [(0, .ref (A 0))]) (by decide) rfl (Nat.le_of_ble_eq_true rfl) rfl ?_
  intro X El hR Er Enm ED E En K
  have K : Cx X cX9_passes RX9 wsX9_passes (xTys cy) sd := K
  have E : X.2.2.2.2.2.2.2.2.2.2.1 = xMQ X (fun u : XRow × XRow × XRow => none) post (fun u => [((A 0), .inr (10, [.ref (A 1), .ref (A 2), .ref (A 3), .ref (A 4), .int mhasKept, .ref (A 5), .int mpasts, .ref (A 6), .int mreports, .int mthrown, .ref (A 7), .ref (A 8), .ref (A 9), .int mordering, .int mdetail, .ref (A 10), .int mlength, .int mspot, .int mnumber, .ref (A 11), .int mtolds, .ref (A 12)])), ((A 1), .inl (cy 0, 672, .inl u.1)), ((A 2), .inl (cy 0, 672, .inl mkept)), ((A 3), .inl (cy 0, 672, .inl mspare)), ((A 4), .inl (cy 0, 672, .inl mtrial)), ((A 5), .inl (cy 0, 5376, .inl mpast)), ((A 6), .inl (cy 0, 6, .inl mreport)), ((A 7), .inl (cy 0, 5, .inl u.2.1)), ((A 8), .inl (cy 0, 5, .inl u.2.2)), ((A 9), .inl (cy 0, 60, .inl morder)), ((A 10), .inl (cy 0, 80, .inl mtext)), ((A 11), .inl (cy 0, 200, .inl mtold)), ((A 12), .inl (cy 0, 672, .inl mahead))]) 0 0 := E
  unfold wp_X9_passes at hw
  refine g_aload_n K 0 dX9_passes_0 rfl ?_
  refine g_bipush (v := 11) K dX9_passes_1 rfl ?_
  refine g_callVr (st' := fun u1 => [.int u1]) K hR [.int 11] [] 0 rfl rfl (c_X9_sum X.2.1 (gxD X) cy sd A mg mkept mspare mtrial mpast mreport mpart mcome morder mtext mtold mahead mhasKept mpasts mreports mthrown mordering mdetail mlength mspot mnumber mtolds 11 hw) gX9_passes_X9_sum rfl yok_X9_sum rfl rfl (by decide) rfl (Nat.le_of_ble_eq_true rfl) dX9_passes_3 [0, 1, 2, 3, 4, 5, 6, 7, 8, 9, 10, 11, 12] rfl (by decide) (fun _ => rfl) ⟨rfl, rfl⟩ (fun u1 hw => ?_)
  refine g_istore_n (lv' := [(1, .int u1), (0, .ref (A 0))]) K dX9_passes_6 rfl (by rw [En]; decide) rfl ?_
  refine g_aload_n K 1 dX9_passes_7 rfl ?_
  refine g_bipush (v := 11) K dX9_passes_8 rfl ?_
  refine g_iload_n K 0 dX9_passes_10 rfl ?_
  refine g_aload_n K 1 dX9_passes_11 rfl ?_
  refine g_get K (C := RX9) (T := TX9) (N := 22) 0 0 in_X9_passes_X9 (by decide +kernel) rfl rfl (by decide) rfl dX9_passes_12 ?_
  refine g_bipush (v := 6) K dX9_passes_15 rfl ?_
  refine g_iald K 1 0 rfl rfl hw.1 dX9_passes_17 ?_
  replace hw := hw.2
  refine g_icmp_ge (tgt := 25) K dX9_passes_18 (by decide) (fun hc => ?_) (fun hc => ?_)
  · replace hw := hw.1 hc
    refine g_aload_n K 1 dX9_passes_25 rfl ?_
    refine g_get K (C := RX9) (T := TX9) (N := 22) 0 0 in_X9_passes_X9 (by decide +kernel) rfl rfl (by decide) rfl dX9_passes_26 ?_
    refine g_bipush (v := 6) K dX9_passes_29 rfl ?_
    refine g_iald K 1 0 rfl rfl hw.1 dX9_passes_31 ?_
    replace hw := hw.2
    refine g_callV (st' := fun u2 => []) (ws' := fun u2 => [((A 0), .inr (10, [.ref (A 1), .ref (A 2), .ref (A 3), .ref (A 4), .int mhasKept, .ref (A 5), .int mpasts, .ref (A 6), .int mreports, .int mthrown, .ref (A 7), .ref (A 8), .ref (A 9), .int mordering, .int mdetail, .ref (A 10), .int mlength, .int mspot, .int mnumber, .ref (A 11), .int mtolds, .ref (A 12)])), ((A 1), .inl (cy 0, 672, .inl u2.1)), ((A 2), .inl (cy 0, 672, .inl mkept)), ((A 3), .inl (cy 0, 672, .inl mspare)), ((A 4), .inl (cy 0, 672, .inl mtrial)), ((A 5), .inl (cy 0, 5376, .inl mpast)), ((A 6), .inl (cy 0, 6, .inl mreport)), ((A 7), .inl (cy 0, 5, .inl u2.2)), ((A 8), .inl (cy 0, 5, .inl mcome)), ((A 9), .inl (cy 0, 60, .inl morder)), ((A 10), .inl (cy 0, 80, .inl mtext)), ((A 11), .inl (cy 0, 200, .inl mtold)), ((A 12), .inl (cy 0, 672, .inl mahead))]) K hR [.int 11, .int (mg ((6 : Int32).toNatClampNeg))] [] 0 rfl rfl (c_X9_takes X.2.1 (gxD X) cy sd A mg mkept mspare mtrial mpast mreport mpart mcome morder mtext mtold mahead mhasKept mpasts mreports mthrown mordering mdetail mlength mspot mnumber mtolds 11 (mg ((6 : Int32).toNatClampNeg)) hw) gX9_passes_X9_takes rfl yok_X9_takes rfl rfl (by decide) rfl (Nat.le_of_ble_eq_true rfl) dX9_passes_32 [0, 1, 2, 3, 4, 5, 6, 7, 8, 9, 10, 11, 12] rfl (by decide) (fun _ => rfl) (fun _ => rfl) (fun _ => rfl) ⟨rfl, rfl⟩ (fun u2 hw => ?_)
    refine g_iconst (v := 0) K dX9_passes_35 rfl ?_
    refine g_istore_n (lv' := [(2, .int 0), (1, .int u1), (0, .ref (A 0))]) K dX9_passes_36 rfl (by rw [En]; decide) rfl ?_
    obtain ⟨fl, hw⟩ := hw
    have key : ∀ (k37_60 : Int32 → XRow → Prop), (∀ (v3 : Int32) (v4 : XRow), k37_60 v3 v4 → Gx X 0 0 [((A 0), .inr (10, [.ref (A 1), .ref (A 2), .ref (A 3), .ref (A 4), .int mhasKept, .ref (A 5), .int mpasts, .ref (A 6), .int mreports, .int mthrown, .ref (A 7), .ref (A 8), .ref (A 9), .int mordering, .int mdetail, .ref (A 10), .int mlength, .int mspot, .int mnumber, .ref (A 11), .int mtolds, .ref (A 12)])), ((A 1), .inl (cy 0, 672, .inl u2.1)), ((A 2), .inl (cy 0, 672, .inl mkept)), ((A 3), .inl (cy 0, 672, .inl mspare)), ((A 4), .inl (cy 0, 672, .inl mtrial)), ((A 5), .inl (cy 0, 5376, .inl mpast)), ((A 6), .inl (cy 0, 6, .inl mreport)), ((A 7), .inl (cy 0, 5, .inl u2.2)), ((A 8), .inl (cy 0, 5, .inl v4)), ((A 9), .inl (cy 0, 60, .inl morder)), ((A 10), .inl (cy 0, 80, .inl mtext)), ((A 11), .inl (cy 0, 200, .inl mtold)), ((A 12), .inl (cy 0, 672, .inl mahead))] [(2, .int v3), (1, .int u1), (0, .ref (A 0))] 60 []) → ∀ (n : Nat) (v3 : Int32) (v4 : XRow), wp_X9_passes_L37 u2 k37_60 n v3 v4 → Gx X 0 0 [((A 0), .inr (10, [.ref (A 1), .ref (A 2), .ref (A 3), .ref (A 4), .int mhasKept, .ref (A 5), .int mpasts, .ref (A 6), .int mreports, .int mthrown, .ref (A 7), .ref (A 8), .ref (A 9), .int mordering, .int mdetail, .ref (A 10), .int mlength, .int mspot, .int mnumber, .ref (A 11), .int mtolds, .ref (A 12)])), ((A 1), .inl (cy 0, 672, .inl u2.1)), ((A 2), .inl (cy 0, 672, .inl mkept)), ((A 3), .inl (cy 0, 672, .inl mspare)), ((A 4), .inl (cy 0, 672, .inl mtrial)), ((A 5), .inl (cy 0, 5376, .inl mpast)), ((A 6), .inl (cy 0, 6, .inl mreport)), ((A 7), .inl (cy 0, 5, .inl u2.2)), ((A 8), .inl (cy 0, 5, .inl v4)), ((A 9), .inl (cy 0, 60, .inl morder)), ((A 10), .inl (cy 0, 80, .inl mtext)), ((A 11), .inl (cy 0, 200, .inl mtold)), ((A 12), .inl (cy 0, 672, .inl mahead))] [(2, .int v3), (1, .int u1), (0, .ref (A 0))] 37 [] := by
      intro k37_60 hx60 n
      induction n with
      | zero => intro v3 v4 hw; exact hw.elim
      | succ n ih =>
        intro v3 v4 hw
        refine g_iload_n K 0 dX9_passes_37 rfl ?_
        refine g_iconst (v := 5) K dX9_passes_38 rfl ?_
        refine g_icmp_ge (tgt := 60) K dX9_passes_39 (by decide) (fun hc => ?_) (fun hc => ?_)
        · replace hw := hw.1 hc
          exact hx60 _ _ hw
        · replace hw := hw.2 hc
          refine g_aload_n K 2 dX9_passes_42 rfl ?_
          refine g_get K (C := RX9) (T := TX9) (N := 22) 0 11 in_X9_passes_X9 (by decide +kernel) rfl rfl (by decide) rfl dX9_passes_43 ?_
          refine g_iload_n K 0 dX9_passes_46 rfl ?_
          refine g_aload_n K 2 dX9_passes_47 rfl ?_
          refine g_get K (C := RX9) (T := TX9) (N := 22) 0 10 in_X9_passes_X9 (by decide +kernel) rfl rfl (by decide) rfl dX9_passes_48 ?_
          refine g_iload_n K 0 dX9_passes_51 rfl ?_
          refine g_iald K 7 0 rfl rfl hw.1 dX9_passes_52 ?_
          replace hw := hw.2
          refine g_iast (ws' := [((A 0), .inr (10, [.ref (A 1), .ref (A 2), .ref (A 3), .ref (A 4), .int mhasKept, .ref (A 5), .int mpasts, .ref (A 6), .int mreports, .int mthrown, .ref (A 7), .ref (A 8), .ref (A 9), .int mordering, .int mdetail, .ref (A 10), .int mlength, .int mspot, .int mnumber, .ref (A 11), .int mtolds, .ref (A 12)])), ((A 1), .inl (cy 0, 672, .inl u2.1)), ((A 2), .inl (cy 0, 672, .inl mkept)), ((A 3), .inl (cy 0, 672, .inl mspare)), ((A 4), .inl (cy 0, 672, .inl mtrial)), ((A 5), .inl (cy 0, 5376, .inl mpast)), ((A 6), .inl (cy 0, 6, .inl mreport)), ((A 7), .inl (cy 0, 5, .inl u2.2)), ((A 8), .inl (cy 0, 5, .inl (upd v4 (v3).toNatClampNeg (u2.2 (v3).toNatClampNeg)))), ((A 9), .inl (cy 0, 60, .inl morder)), ((A 10), .inl (cy 0, 80, .inl mtext)), ((A 11), .inl (cy 0, 200, .inl mtold)), ((A 12), .inl (cy 0, 672, .inl mahead))]) K 8 0 rfl rfl hw.1 rfl dX9_passes_53 ?_
          replace hw := hw.2
          obtain ⟨x5, ex5⟩ : ∃ z : Int32, z = v3 + 1 := ⟨_, rfl⟩
          replace hw := hw x5 ex5
          refine g_iinc (v := x5) (lv' := [(2, .int x5), (1, .int u1), (0, .ref (A 0))]) K 0 dX9_passes_54 rfl (by rw [ex5]; rfl) (by rw [En]; decide) rfl ?_
          refine g_goto (tgt := 37) K dX9_passes_57 (by decide) ?_
          exact ih _ _ hw
    refine key _ (fun v6 v7 hw => ?_) fl _ _ hw
    refine g_iconst (v := 0) K dX9_passes_60 rfl ?_
    refine g_istore_n (lv' := [(2, .int 0), (1, .int u1), (0, .ref (A 0))]) K dX9_passes_61 rfl (by rw [En]; decide) rfl ?_
    obtain ⟨fl, hw⟩ := hw
    have key : ∀ (k62_201 : Int32 → XRow → XRow → Prop), (∀ (v8 : Int32) (v9 : XRow) (v10 : XRow), k62_201 v8 v9 v10 → Gx X 0 0 [((A 0), .inr (10, [.ref (A 1), .ref (A 2), .ref (A 3), .ref (A 4), .int mhasKept, .ref (A 5), .int mpasts, .ref (A 6), .int mreports, .int mthrown, .ref (A 7), .ref (A 8), .ref (A 9), .int mordering, .int mdetail, .ref (A 10), .int mlength, .int mspot, .int mnumber, .ref (A 11), .int mtolds, .ref (A 12)])), ((A 1), .inl (cy 0, 672, .inl v9)), ((A 2), .inl (cy 0, 672, .inl mkept)), ((A 3), .inl (cy 0, 672, .inl mspare)), ((A 4), .inl (cy 0, 672, .inl mtrial)), ((A 5), .inl (cy 0, 5376, .inl mpast)), ((A 6), .inl (cy 0, 6, .inl mreport)), ((A 7), .inl (cy 0, 5, .inl u2.2)), ((A 8), .inl (cy 0, 5, .inl v10)), ((A 9), .inl (cy 0, 60, .inl morder)), ((A 10), .inl (cy 0, 80, .inl mtext)), ((A 11), .inl (cy 0, 200, .inl mtold)), ((A 12), .inl (cy 0, 672, .inl mahead))] [(2, .int v8), (1, .int u1), (0, .ref (A 0))] 201 []) → ∀ (n : Nat) (v8 : Int32) (v9 : XRow) (v10 : XRow), wp_X9_passes_L62 k62_201 n v8 v9 v10 → Gx X 0 0 [((A 0), .inr (10, [.ref (A 1), .ref (A 2), .ref (A 3), .ref (A 4), .int mhasKept, .ref (A 5), .int mpasts, .ref (A 6), .int mreports, .int mthrown, .ref (A 7), .ref (A 8), .ref (A 9), .int mordering, .int mdetail, .ref (A 10), .int mlength, .int mspot, .int mnumber, .ref (A 11), .int mtolds, .ref (A 12)])), ((A 1), .inl (cy 0, 672, .inl v9)), ((A 2), .inl (cy 0, 672, .inl mkept)), ((A 3), .inl (cy 0, 672, .inl mspare)), ((A 4), .inl (cy 0, 672, .inl mtrial)), ((A 5), .inl (cy 0, 5376, .inl mpast)), ((A 6), .inl (cy 0, 6, .inl mreport)), ((A 7), .inl (cy 0, 5, .inl u2.2)), ((A 8), .inl (cy 0, 5, .inl v10)), ((A 9), .inl (cy 0, 60, .inl morder)), ((A 10), .inl (cy 0, 80, .inl mtext)), ((A 11), .inl (cy 0, 200, .inl mtold)), ((A 12), .inl (cy 0, 672, .inl mahead))] [(2, .int v8), (1, .int u1), (0, .ref (A 0))] 62 [] := by
      intro k62_201 hx201 n
      induction n with
      | zero => intro v8 v9 v10 hw; exact hw.elim
      | succ n ih =>
        intro v8 v9 v10 hw
        refine g_iload_n K 0 dX9_passes_62 rfl ?_
        refine g_aload_n K 2 dX9_passes_63 rfl ?_
        refine g_get K (C := RX9) (T := TX9) (N := 22) 0 0 in_X9_passes_X9 (by decide +kernel) rfl rfl (by decide) rfl dX9_passes_64 ?_
        refine g_iconst (v := 0) K dX9_passes_67 rfl ?_
        refine g_iald K 1 0 rfl rfl hw.1 dX9_passes_68 ?_
        replace hw := hw.2
        refine g_icmp_ge (tgt := 201) K dX9_passes_69 (by decide) (fun hc => ?_) (fun hc => ?_)
        · replace hw := hw.1 hc
          exact hx201 _ _ _ hw
        · replace hw := hw.2 hc
          refine g_aload_n K 2 dX9_passes_72 rfl ?_
          refine g_get K (C := RX9) (T := TX9) (N := 22) 0 11 in_X9_passes_X9 (by decide +kernel) rfl rfl (by decide) rfl dX9_passes_73 ?_
          refine g_iconst (v := 0) K dX9_passes_76 rfl ?_
          refine g_iald K 8 0 rfl rfl hw.1 dX9_passes_77 ?_
          replace hw := hw.2
          refine g_aload_n K 2 dX9_passes_78 rfl ?_
          refine g_get K (C := RX9) (T := TX9) (N := 22) 0 11 in_X9_passes_X9 (by decide +kernel) rfl rfl (by decide) rfl dX9_passes_79 ?_
          refine g_iconst (v := 1) K dX9_passes_82 rfl ?_
          refine g_iald K 8 0 rfl rfl hw.1 dX9_passes_83 ?_
          replace hw := hw.2
          refine g_iadd K dX9_passes_84 ?_
          refine g_aload_n K 2 dX9_passes_85 rfl ?_
          refine g_get K (C := RX9) (T := TX9) (N := 22) 0 11 in_X9_passes_X9 (by decide +kernel) rfl rfl (by decide) rfl dX9_passes_86 ?_
          refine g_iconst (v := 2) K dX9_passes_89 rfl ?_
          refine g_iald K 8 0 rfl rfl hw.1 dX9_passes_90 ?_
          replace hw := hw.2
          refine g_iadd K dX9_passes_91 ?_
          refine g_aload_n K 2 dX9_passes_92 rfl ?_
          refine g_get K (C := RX9) (T := TX9) (N := 22) 0 11 in_X9_passes_X9 (by decide +kernel) rfl rfl (by decide) rfl dX9_passes_93 ?_
          refine g_iconst (v := 3) K dX9_passes_96 rfl ?_
          refine g_iald K 8 0 rfl rfl hw.1 dX9_passes_97 ?_
          replace hw := hw.2
          refine g_iadd K dX9_passes_98 ?_
          refine g_aload_n K 2 dX9_passes_99 rfl ?_
          refine g_get K (C := RX9) (T := TX9) (N := 22) 0 11 in_X9_passes_X9 (by decide +kernel) rfl rfl (by decide) rfl dX9_passes_100 ?_
          refine g_iconst (v := 4) K dX9_passes_103 rfl ?_
          refine g_iald K 8 0 rfl rfl hw.1 dX9_passes_104 ?_
          replace hw := hw.2
          refine g_iadd K dX9_passes_105 ?_
          refine g_topi (fun x11 ex11 => ?_)
          replace hw := hw x11 ex11
          refine g_istore_n (lv' := [(3, .int x11), (2, .int v8), (1, .int u1), (0, .ref (A 0))]) K dX9_passes_106 rfl (by rw [En]; decide) rfl ?_
          refine g_iconst (v := 0) K dX9_passes_107 rfl ?_
          refine g_istore (lv' := [(4, .int 0), (3, .int x11), (2, .int v8), (1, .int u1), (0, .ref (A 0))]) K dX9_passes_108 (by rw [En]; decide) rfl ?_
          obtain ⟨fl, hw⟩ := hw
          have key : ∀ (k110_195 : Int32 → XRow → XRow → Prop), (∀ (v12 : Int32) (v13 : XRow) (v14 : XRow), k110_195 v12 v13 v14 → Gx X 0 0 [((A 0), .inr (10, [.ref (A 1), .ref (A 2), .ref (A 3), .ref (A 4), .int mhasKept, .ref (A 5), .int mpasts, .ref (A 6), .int mreports, .int mthrown, .ref (A 7), .ref (A 8), .ref (A 9), .int mordering, .int mdetail, .ref (A 10), .int mlength, .int mspot, .int mnumber, .ref (A 11), .int mtolds, .ref (A 12)])), ((A 1), .inl (cy 0, 672, .inl v13)), ((A 2), .inl (cy 0, 672, .inl mkept)), ((A 3), .inl (cy 0, 672, .inl mspare)), ((A 4), .inl (cy 0, 672, .inl mtrial)), ((A 5), .inl (cy 0, 5376, .inl mpast)), ((A 6), .inl (cy 0, 6, .inl mreport)), ((A 7), .inl (cy 0, 5, .inl u2.2)), ((A 8), .inl (cy 0, 5, .inl v14)), ((A 9), .inl (cy 0, 60, .inl morder)), ((A 10), .inl (cy 0, 80, .inl mtext)), ((A 11), .inl (cy 0, 200, .inl mtold)), ((A 12), .inl (cy 0, 672, .inl mahead))] [(4, .int v12), (3, .int x11), (2, .int v8), (1, .int u1), (0, .ref (A 0))] 195 []) → ∀ (n : Nat) (v12 : Int32) (v13 : XRow) (v14 : XRow), wp_X9_passes_L110 x11 v8 k110_195 n v12 v13 v14 → Gx X 0 0 [((A 0), .inr (10, [.ref (A 1), .ref (A 2), .ref (A 3), .ref (A 4), .int mhasKept, .ref (A 5), .int mpasts, .ref (A 6), .int mreports, .int mthrown, .ref (A 7), .ref (A 8), .ref (A 9), .int mordering, .int mdetail, .ref (A 10), .int mlength, .int mspot, .int mnumber, .ref (A 11), .int mtolds, .ref (A 12)])), ((A 1), .inl (cy 0, 672, .inl v13)), ((A 2), .inl (cy 0, 672, .inl mkept)), ((A 3), .inl (cy 0, 672, .inl mspare)), ((A 4), .inl (cy 0, 672, .inl mtrial)), ((A 5), .inl (cy 0, 5376, .inl mpast)), ((A 6), .inl (cy 0, 6, .inl mreport)), ((A 7), .inl (cy 0, 5, .inl u2.2)), ((A 8), .inl (cy 0, 5, .inl v14)), ((A 9), .inl (cy 0, 60, .inl morder)), ((A 10), .inl (cy 0, 80, .inl mtext)), ((A 11), .inl (cy 0, 200, .inl mtold)), ((A 12), .inl (cy 0, 672, .inl mahead))] [(4, .int v12), (3, .int x11), (2, .int v8), (1, .int u1), (0, .ref (A 0))] 110 [] := by
            intro k110_195 hx195 n
            induction n with
            | zero => intro v12 v13 v14 hw; exact hw.elim
            | succ n ih =>
              intro v12 v13 v14 hw
              refine g_iload K 0 dX9_passes_110 rfl ?_
              refine g_iconst (v := 5) K dX9_passes_112 rfl ?_
              refine g_icmp_ge (tgt := 195) K dX9_passes_113 (by decide) (fun hc => ?_) (fun hc => ?_)
              · replace hw := hw.1 hc
                exact hx195 _ _ _ hw
              · replace hw := hw.2 hc
                refine g_aload_n K 4 dX9_passes_116 rfl ?_
                refine g_get K (C := RX9) (T := TX9) (N := 22) 0 11 in_X9_passes_X9 (by decide +kernel) rfl rfl (by decide) rfl dX9_passes_117 ?_
                refine g_iload K 0 dX9_passes_120 rfl ?_
                refine g_iald K 8 0 rfl rfl hw.1 dX9_passes_122 ?_
                replace hw := hw.2
                refine g_iload K 0 dX9_passes_123 rfl ?_
                refine g_aload_n K 4 dX9_passes_125 rfl ?_
                refine g_get K (C := RX9) (T := TX9) (N := 22) 0 0 in_X9_passes_X9 (by decide +kernel) rfl rfl (by decide) rfl dX9_passes_126 ?_
                refine g_iload_n K 2 dX9_passes_129 rfl ?_
                refine g_iconst (v := 0) K dX9_passes_130 rfl ?_
                refine g_callSr (st' := fun u15 => [.int u15, .ref (A 1), .int v12, .int (v14 (v12).toNatClampNeg)]) K hR [.int v8, .int 0] [.ref (A 1), .int v12, .int (v14 (v12).toNatClampNeg)] (c_X9_machineAt X.2.1 (gxD X) cy sd v8 0 hw) gX9_passes_X9_machineAt rfl yok_X9_machineAt rfl (by decide) rfl (Nat.le_of_ble_eq_true rfl) dX9_passes_131 [] rfl (by decide) (fun _ => rfl) ⟨rfl, rfl⟩ (fun u15 hw => ?_)
                refine g_iald K 1 0 rfl rfl hw.1 dX9_passes_134 ?_
                replace hw := hw.2
                refine g_icmp_ne (tgt := 147) K dX9_passes_135 (by decide) (fun hc => ?_) (fun hc => ?_)
                · replace hw := hw.2 hc
                  refine g_aload_n K 4 dX9_passes_147 rfl ?_
                  refine g_iload_n K 2 dX9_passes_148 rfl ?_
                  refine g_iload_n K 1 dX9_passes_149 rfl ?_
                  refine g_callVr (st' := fun u16 => [.int u16, .int (v14 (v12).toNatClampNeg)]) K hR [.int v8, .int x11] [.int (v14 (v12).toNatClampNeg)] 0 rfl rfl (c_X9_mistakes X.2.1 (gxD X) cy sd A v13 mkept mspare mtrial mpast mreport u2.2 v14 morder mtext mtold mahead mhasKept mpasts mreports mthrown mordering mdetail mlength mspot mnumber mtolds v8 x11 hw) gX9_passes_X9_mistakes rfl yok_X9_mistakes rfl rfl (by decide) rfl (Nat.le_of_ble_eq_true rfl) dX9_passes_150 [0, 1, 2, 3, 4, 5, 6, 7, 8, 9, 10, 11, 12] rfl (by decide) (fun _ => rfl) ⟨rfl, rfl⟩ (fun u16 hw => ?_)
                  refine g_imul K dX9_passes_153 ?_
                  refine g_bipush (v := 100) K dX9_passes_154 rfl ?_
                  refine g_idiv K dX9_passes_156 (by decide) ?_
                  refine g_topi (fun x17 ex17 => ?_)
                  replace hw := hw x17 ex17
                  refine g_istore (lv' := [(5, .int x17), (4, .int v12), (3, .int x11), (2, .int v8), (1, .int u1), (0, .ref (A 0))]) K dX9_passes_157 (by rw [En]; decide) rfl ?_
                  refine g_aload_n K 5 dX9_passes_159 rfl ?_
                  refine g_get K (C := RX9) (T := TX9) (N := 22) 0 0 in_X9_passes_X9 (by decide +kernel) rfl rfl (by decide) rfl dX9_passes_160 ?_
                  refine g_iload_n K 3 dX9_passes_163 rfl ?_
                  refine g_iconst (v := 5) K dX9_passes_164 rfl ?_
                  refine g_iload K 1 dX9_passes_165 rfl ?_
                  refine g_iadd K dX9_passes_167 ?_
                  refine g_callSr (st' := fun u18 => [.int u18, .ref (A 1)]) K hR [.int v8, .int (5 + v12)] [.ref (A 1)] (c_X9_machineAt X.2.1 (gxD X) cy sd v8 (5 + v12) hw) gX9_passes_X9_machineAt rfl yok_X9_machineAt rfl (by decide) rfl (Nat.le_of_ble_eq_true rfl) dX9_passes_168 [] rfl (by decide) (fun _ => rfl) ⟨rfl, rfl⟩ (fun u18 hw => ?_)
                  refine g_dup2_11 K dX9_passes_171 rfl rfl ?_
                  refine g_iald K 1 0 rfl rfl hw.1 dX9_passes_172 ?_
                  replace hw := hw.2
                  refine g_iload K 0 dX9_passes_173 rfl ?_
                  refine g_iadd K dX9_passes_175 ?_
                  refine g_iast (ws' := [((A 0), .inr (10, [.ref (A 1), .ref (A 2), .ref (A 3), .ref (A 4), .int mhasKept, .ref (A 5), .int mpasts, .ref (A 6), .int mreports, .int mthrown, .ref (A 7), .ref (A 8), .ref (A 9), .int mordering, .int mdetail, .ref (A 10), .int mlength, .int mspot, .int mnumber, .ref (A 11), .int mtolds, .ref (A 12)])), ((A 1), .inl (cy 0, 672, .inl (upd v13 (u18).toNatClampNeg ((v13 (u18).toNatClampNeg) + x17)))), ((A 2), .inl (cy 0, 672, .inl mkept)), ((A 3), .inl (cy 0, 672, .inl mspare)), ((A 4), .inl (cy 0, 672, .inl mtrial)), ((A 5), .inl (cy 0, 5376, .inl mpast)), ((A 6), .inl (cy 0, 6, .inl mreport)), ((A 7), .inl (cy 0, 5, .inl u2.2)), ((A 8), .inl (cy 0, 5, .inl v14)), ((A 9), .inl (cy 0, 60, .inl morder)), ((A 10), .inl (cy 0, 80, .inl mtext)), ((A 11), .inl (cy 0, 200, .inl mtold)), ((A 12), .inl (cy 0, 672, .inl mahead))]) K 1 0 rfl rfl hw.1 rfl dX9_passes_176 ?_
                  replace hw := hw.2
                  refine g_aload_n K 5 dX9_passes_177 rfl ?_
                  refine g_get K (C := RX9) (T := TX9) (N := 22) 0 11 in_X9_passes_X9 (by decide +kernel) rfl rfl (by decide) rfl dX9_passes_178 ?_
                  refine g_iload K 1 dX9_passes_181 rfl ?_
                  refine g_dup2_11 K dX9_passes_183 rfl rfl ?_
                  refine g_iald K 8 0 rfl rfl hw.1 dX9_passes_184 ?_
                  replace hw := hw.2
                  refine g_iload K 0 dX9_passes_185 rfl ?_
                  refine g_isub K dX9_passes_187 ?_
                  refine g_iast (ws' := [((A 0), .inr (10, [.ref (A 1), .ref (A 2), .ref (A 3), .ref (A 4), .int mhasKept, .ref (A 5), .int mpasts, .ref (A 6), .int mreports, .int mthrown, .ref (A 7), .ref (A 8), .ref (A 9), .int mordering, .int mdetail, .ref (A 10), .int mlength, .int mspot, .int mnumber, .ref (A 11), .int mtolds, .ref (A 12)])), ((A 1), .inl (cy 0, 672, .inl (upd v13 (u18).toNatClampNeg ((v13 (u18).toNatClampNeg) + x17)))), ((A 2), .inl (cy 0, 672, .inl mkept)), ((A 3), .inl (cy 0, 672, .inl mspare)), ((A 4), .inl (cy 0, 672, .inl mtrial)), ((A 5), .inl (cy 0, 5376, .inl mpast)), ((A 6), .inl (cy 0, 6, .inl mreport)), ((A 7), .inl (cy 0, 5, .inl u2.2)), ((A 8), .inl (cy 0, 5, .inl (upd v14 (v12).toNatClampNeg ((v14 (v12).toNatClampNeg) - x17)))), ((A 9), .inl (cy 0, 60, .inl morder)), ((A 10), .inl (cy 0, 80, .inl mtext)), ((A 11), .inl (cy 0, 200, .inl mtold)), ((A 12), .inl (cy 0, 672, .inl mahead))]) K 8 0 rfl rfl hw.1 rfl dX9_passes_188 ?_
                  replace hw := hw.2
                  obtain ⟨x19, ex19⟩ : ∃ z : Int32, z = v12 + 1 := ⟨_, rfl⟩
                  replace hw := hw x19 ex19
                  refine g_iinc (v := x19) (lv' := [(4, .int x19), (5, .int x17), (3, .int x11), (2, .int v8), (1, .int u1), (0, .ref (A 0))]) K 1 dX9_passes_189 rfl (by rw [ex19]; rfl) (by rw [En]; decide) rfl ?_
                  refine g_goto (tgt := 110) K dX9_passes_192 (by decide) ?_
                  refine gx_locals [0, 2, 3, 4, 5] rfl ?_
                  exact ih _ _ _ hw
                · replace hw := hw.1 hc
                  refine g_aload_n K 4 dX9_passes_138 rfl ?_
                  refine g_iload_n K 2 dX9_passes_139 rfl ?_
                  refine g_iload_n K 1 dX9_passes_140 rfl ?_
                  refine g_callVr (st' := fun u20 => [.int u20, .int (v14 (v12).toNatClampNeg)]) K hR [.int v8, .int x11] [.int (v14 (v12).toNatClampNeg)] 0 rfl rfl (c_X9_catches X.2.1 (gxD X) cy sd A v13 mkept mspare mtrial mpast mreport u2.2 v14 morder mtext mtold mahead mhasKept mpasts mreports mthrown mordering mdetail mlength mspot mnumber mtolds v8 x11 hw) gX9_passes_X9_catches rfl yok_X9_catches rfl rfl (by decide) rfl (Nat.le_of_ble_eq_true rfl) dX9_passes_141 [0, 1, 2, 3, 4, 5, 6, 7, 8, 9, 10, 11, 12] rfl (by decide) (fun _ => rfl) ⟨rfl, rfl⟩ (fun u20 hw => ?_)
                  refine g_goto (tgt := 153) K dX9_passes_144 (by decide) ?_
                  refine g_imul K dX9_passes_153 ?_
                  refine g_bipush (v := 100) K dX9_passes_154 rfl ?_
                  refine g_idiv K dX9_passes_156 (by decide) ?_
                  refine g_topi (fun x21 ex21 => ?_)
                  replace hw := hw x21 ex21
                  refine g_istore (lv' := [(5, .int x21), (4, .int v12), (3, .int x11), (2, .int v8), (1, .int u1), (0, .ref (A 0))]) K dX9_passes_157 (by rw [En]; decide) rfl ?_
                  refine g_aload_n K 5 dX9_passes_159 rfl ?_
                  refine g_get K (C := RX9) (T := TX9) (N := 22) 0 0 in_X9_passes_X9 (by decide +kernel) rfl rfl (by decide) rfl dX9_passes_160 ?_
                  refine g_iload_n K 3 dX9_passes_163 rfl ?_
                  refine g_iconst (v := 5) K dX9_passes_164 rfl ?_
                  refine g_iload K 1 dX9_passes_165 rfl ?_
                  refine g_iadd K dX9_passes_167 ?_
                  refine g_callSr (st' := fun u22 => [.int u22, .ref (A 1)]) K hR [.int v8, .int (5 + v12)] [.ref (A 1)] (c_X9_machineAt X.2.1 (gxD X) cy sd v8 (5 + v12) hw) gX9_passes_X9_machineAt rfl yok_X9_machineAt rfl (by decide) rfl (Nat.le_of_ble_eq_true rfl) dX9_passes_168 [] rfl (by decide) (fun _ => rfl) ⟨rfl, rfl⟩ (fun u22 hw => ?_)
                  refine g_dup2_11 K dX9_passes_171 rfl rfl ?_
                  refine g_iald K 1 0 rfl rfl hw.1 dX9_passes_172 ?_
                  replace hw := hw.2
                  refine g_iload K 0 dX9_passes_173 rfl ?_
                  refine g_iadd K dX9_passes_175 ?_
                  refine g_iast (ws' := [((A 0), .inr (10, [.ref (A 1), .ref (A 2), .ref (A 3), .ref (A 4), .int mhasKept, .ref (A 5), .int mpasts, .ref (A 6), .int mreports, .int mthrown, .ref (A 7), .ref (A 8), .ref (A 9), .int mordering, .int mdetail, .ref (A 10), .int mlength, .int mspot, .int mnumber, .ref (A 11), .int mtolds, .ref (A 12)])), ((A 1), .inl (cy 0, 672, .inl (upd v13 (u22).toNatClampNeg ((v13 (u22).toNatClampNeg) + x21)))), ((A 2), .inl (cy 0, 672, .inl mkept)), ((A 3), .inl (cy 0, 672, .inl mspare)), ((A 4), .inl (cy 0, 672, .inl mtrial)), ((A 5), .inl (cy 0, 5376, .inl mpast)), ((A 6), .inl (cy 0, 6, .inl mreport)), ((A 7), .inl (cy 0, 5, .inl u2.2)), ((A 8), .inl (cy 0, 5, .inl v14)), ((A 9), .inl (cy 0, 60, .inl morder)), ((A 10), .inl (cy 0, 80, .inl mtext)), ((A 11), .inl (cy 0, 200, .inl mtold)), ((A 12), .inl (cy 0, 672, .inl mahead))]) K 1 0 rfl rfl hw.1 rfl dX9_passes_176 ?_
                  replace hw := hw.2
                  refine g_aload_n K 5 dX9_passes_177 rfl ?_
                  refine g_get K (C := RX9) (T := TX9) (N := 22) 0 11 in_X9_passes_X9 (by decide +kernel) rfl rfl (by decide) rfl dX9_passes_178 ?_
                  refine g_iload K 1 dX9_passes_181 rfl ?_
                  refine g_dup2_11 K dX9_passes_183 rfl rfl ?_
                  refine g_iald K 8 0 rfl rfl hw.1 dX9_passes_184 ?_
                  replace hw := hw.2
                  refine g_iload K 0 dX9_passes_185 rfl ?_
                  refine g_isub K dX9_passes_187 ?_
                  refine g_iast (ws' := [((A 0), .inr (10, [.ref (A 1), .ref (A 2), .ref (A 3), .ref (A 4), .int mhasKept, .ref (A 5), .int mpasts, .ref (A 6), .int mreports, .int mthrown, .ref (A 7), .ref (A 8), .ref (A 9), .int mordering, .int mdetail, .ref (A 10), .int mlength, .int mspot, .int mnumber, .ref (A 11), .int mtolds, .ref (A 12)])), ((A 1), .inl (cy 0, 672, .inl (upd v13 (u22).toNatClampNeg ((v13 (u22).toNatClampNeg) + x21)))), ((A 2), .inl (cy 0, 672, .inl mkept)), ((A 3), .inl (cy 0, 672, .inl mspare)), ((A 4), .inl (cy 0, 672, .inl mtrial)), ((A 5), .inl (cy 0, 5376, .inl mpast)), ((A 6), .inl (cy 0, 6, .inl mreport)), ((A 7), .inl (cy 0, 5, .inl u2.2)), ((A 8), .inl (cy 0, 5, .inl (upd v14 (v12).toNatClampNeg ((v14 (v12).toNatClampNeg) - x21)))), ((A 9), .inl (cy 0, 60, .inl morder)), ((A 10), .inl (cy 0, 80, .inl mtext)), ((A 11), .inl (cy 0, 200, .inl mtold)), ((A 12), .inl (cy 0, 672, .inl mahead))]) K 8 0 rfl rfl hw.1 rfl dX9_passes_188 ?_
                  replace hw := hw.2
                  obtain ⟨x23, ex23⟩ : ∃ z : Int32, z = v12 + 1 := ⟨_, rfl⟩
                  replace hw := hw x23 ex23
                  refine g_iinc (v := x23) (lv' := [(4, .int x23), (5, .int x21), (3, .int x11), (2, .int v8), (1, .int u1), (0, .ref (A 0))]) K 1 dX9_passes_189 rfl (by rw [ex23]; rfl) (by rw [En]; decide) rfl ?_
                  refine g_goto (tgt := 110) K dX9_passes_192 (by decide) ?_
                  refine gx_locals [0, 2, 3, 4, 5] rfl ?_
                  exact ih _ _ _ hw
          refine key _ (fun v24 v25 v26 hw => ?_) fl _ _ _ hw
          obtain ⟨x27, ex27⟩ : ∃ z : Int32, z = v8 + 1 := ⟨_, rfl⟩
          replace hw := hw x27 ex27
          refine g_iinc (v := x27) (lv' := [(2, .int x27), (4, .int v24), (3, .int x11), (1, .int u1), (0, .ref (A 0))]) K 2 dX9_passes_195 rfl (by rw [ex27]; rfl) (by rw [En]; decide) rfl ?_
          refine g_goto (tgt := 62) K dX9_passes_198 (by decide) ?_
          refine gx_locals [0, 3, 4] rfl ?_
          exact ih _ _ _ hw
    refine key _ (fun v28 v29 v30 hw => ?_) fl _ _ _ hw
    refine g_iconst (v := 0) K dX9_passes_201 rfl ?_
    refine g_istore_n (lv' := [(2, .int 0), (1, .int u1), (0, .ref (A 0))]) K dX9_passes_202 rfl (by rw [En]; decide) rfl ?_
    obtain ⟨fl, hw⟩ := hw
    have key : ∀ (k203_265 : Int32 → XRow → Prop), (∀ (v31 : Int32) (v32 : XRow), k203_265 v31 v32 → Gx X 0 0 [((A 0), .inr (10, [.ref (A 1), .ref (A 2), .ref (A 3), .ref (A 4), .int mhasKept, .ref (A 5), .int mpasts, .ref (A 6), .int mreports, .int mthrown, .ref (A 7), .ref (A 8), .ref (A 9), .int mordering, .int mdetail, .ref (A 10), .int mlength, .int mspot, .int mnumber, .ref (A 11), .int mtolds, .ref (A 12)])), ((A 1), .inl (cy 0, 672, .inl v32)), ((A 2), .inl (cy 0, 672, .inl mkept)), ((A 3), .inl (cy 0, 672, .inl mspare)), ((A 4), .inl (cy 0, 672, .inl mtrial)), ((A 5), .inl (cy 0, 5376, .inl mpast)), ((A 6), .inl (cy 0, 6, .inl mreport)), ((A 7), .inl (cy 0, 5, .inl u2.2)), ((A 8), .inl (cy 0, 5, .inl v30)), ((A 9), .inl (cy 0, 60, .inl morder)), ((A 10), .inl (cy 0, 80, .inl mtext)), ((A 11), .inl (cy 0, 200, .inl mtold)), ((A 12), .inl (cy 0, 672, .inl mahead))] [(2, .int v31), (1, .int u1), (0, .ref (A 0))] 265 []) → ∀ (n : Nat) (v31 : Int32) (v32 : XRow), wp_X9_passes_L203 v30 k203_265 n v31 v32 → Gx X 0 0 [((A 0), .inr (10, [.ref (A 1), .ref (A 2), .ref (A 3), .ref (A 4), .int mhasKept, .ref (A 5), .int mpasts, .ref (A 6), .int mreports, .int mthrown, .ref (A 7), .ref (A 8), .ref (A 9), .int mordering, .int mdetail, .ref (A 10), .int mlength, .int mspot, .int mnumber, .ref (A 11), .int mtolds, .ref (A 12)])), ((A 1), .inl (cy 0, 672, .inl v32)), ((A 2), .inl (cy 0, 672, .inl mkept)), ((A 3), .inl (cy 0, 672, .inl mspare)), ((A 4), .inl (cy 0, 672, .inl mtrial)), ((A 5), .inl (cy 0, 5376, .inl mpast)), ((A 6), .inl (cy 0, 6, .inl mreport)), ((A 7), .inl (cy 0, 5, .inl u2.2)), ((A 8), .inl (cy 0, 5, .inl v30)), ((A 9), .inl (cy 0, 60, .inl morder)), ((A 10), .inl (cy 0, 80, .inl mtext)), ((A 11), .inl (cy 0, 200, .inl mtold)), ((A 12), .inl (cy 0, 672, .inl mahead))] [(2, .int v31), (1, .int u1), (0, .ref (A 0))] 203 [] := by
      intro k203_265 hx265 n
      induction n with
      | zero => intro v31 v32 hw; exact hw.elim
      | succ n ih =>
        intro v31 v32 hw
        refine g_iload_n K 0 dX9_passes_203 rfl ?_
        refine g_iconst (v := 5) K dX9_passes_204 rfl ?_
        refine g_icmp_ge (tgt := 265) K dX9_passes_205 (by decide) (fun hc => ?_) (fun hc => ?_)
        · replace hw := hw.1 hc
          exact hx265 _ _ hw
        · replace hw := hw.2 hc
          refine g_aload_n K 2 dX9_passes_208 rfl ?_
          refine g_get K (C := RX9) (T := TX9) (N := 22) 0 11 in_X9_passes_X9 (by decide +kernel) rfl rfl (by decide) rfl dX9_passes_209 ?_
          refine g_iload_n K 0 dX9_passes_212 rfl ?_
          refine g_iald K 8 0 rfl rfl hw.1 dX9_passes_213 ?_
          replace hw := hw.2
          refine g_aload_n K 2 dX9_passes_214 rfl ?_
          refine g_get K (C := RX9) (T := TX9) (N := 22) 0 0 in_X9_passes_X9 (by decide +kernel) rfl rfl (by decide) rfl dX9_passes_215 ?_
          refine g_bipush (v := 7) K dX9_passes_218 rfl ?_
          refine g_iald K 1 0 rfl rfl hw.1 dX9_passes_220 ?_
          replace hw := hw.2
          refine g_imul K dX9_passes_221 ?_
          refine g_bipush (v := 100) K dX9_passes_222 rfl ?_
          refine g_idiv K dX9_passes_224 (by decide) ?_
          refine g_topi (fun x33 ex33 => ?_)
          replace hw := hw x33 ex33
          refine g_istore_n (lv' := [(3, .int x33), (2, .int v31), (1, .int u1), (0, .ref (A 0))]) K dX9_passes_225 rfl (by rw [En]; decide) rfl ?_
          refine g_aload_n K 3 dX9_passes_226 rfl ?_
          refine g_get K (C := RX9) (T := TX9) (N := 22) 0 0 in_X9_passes_X9 (by decide +kernel) rfl rfl (by decide) rfl dX9_passes_227 ?_
          refine g_bipush (v := 11) K dX9_passes_230 rfl ?_
          refine g_iload_n K 1 dX9_passes_232 rfl ?_
          refine g_iadd K dX9_passes_233 ?_
          refine g_dup2_11 K dX9_passes_234 rfl rfl ?_
          refine g_iald K 1 0 rfl rfl hw.1 dX9_passes_235 ?_
          replace hw := hw.2
          refine g_iload_n K 0 dX9_passes_236 rfl ?_
          refine g_iadd K dX9_passes_237 ?_
          refine g_iast (ws' := [((A 0), .inr (10, [.ref (A 1), .ref (A 2), .ref (A 3), .ref (A 4), .int mhasKept, .ref (A 5), .int mpasts, .ref (A 6), .int mreports, .int mthrown, .ref (A 7), .ref (A 8), .ref (A 9), .int mordering, .int mdetail, .ref (A 10), .int mlength, .int mspot, .int mnumber, .ref (A 11), .int mtolds, .ref (A 12)])), ((A 1), .inl (cy 0, 672, .inl (upd v32 (11 + v31).toNatClampNeg ((v32 (11 + v31).toNatClampNeg) + x33)))), ((A 2), .inl (cy 0, 672, .inl mkept)), ((A 3), .inl (cy 0, 672, .inl mspare)), ((A 4), .inl (cy 0, 672, .inl mtrial)), ((A 5), .inl (cy 0, 5376, .inl mpast)), ((A 6), .inl (cy 0, 6, .inl mreport)), ((A 7), .inl (cy 0, 5, .inl u2.2)), ((A 8), .inl (cy 0, 5, .inl v30)), ((A 9), .inl (cy 0, 60, .inl morder)), ((A 10), .inl (cy 0, 80, .inl mtext)), ((A 11), .inl (cy 0, 200, .inl mtold)), ((A 12), .inl (cy 0, 672, .inl mahead))]) K 1 0 rfl rfl hw.1 rfl dX9_passes_238 ?_
          replace hw := hw.2
          refine g_aload_n K 3 dX9_passes_239 rfl ?_
          refine g_get K (C := RX9) (T := TX9) (N := 22) 0 0 in_X9_passes_X9 (by decide +kernel) rfl rfl (by decide) rfl dX9_passes_240 ?_
          refine g_bipush (v := 16) K dX9_passes_243 rfl ?_
          refine g_iload_n K 1 dX9_passes_245 rfl ?_
          refine g_iadd K dX9_passes_246 ?_
          refine g_dup2_11 K dX9_passes_247 rfl rfl ?_
          refine g_iald K 1 0 rfl rfl hw.1 dX9_passes_248 ?_
          replace hw := hw.2
          refine g_aload_n K 3 dX9_passes_249 rfl ?_
          refine g_get K (C := RX9) (T := TX9) (N := 22) 0 11 in_X9_passes_X9 (by decide +kernel) rfl rfl (by decide) rfl dX9_passes_250 ?_
          refine g_iload_n K 1 dX9_passes_253 rfl ?_
          refine g_iald K 8 0 rfl rfl hw.1 dX9_passes_254 ?_
          replace hw := hw.2
          refine g_iload_n K 0 dX9_passes_255 rfl ?_
          refine g_isub K dX9_passes_256 ?_
          refine g_iadd K dX9_passes_257 ?_
          refine g_iast (ws' := [((A 0), .inr (10, [.ref (A 1), .ref (A 2), .ref (A 3), .ref (A 4), .int mhasKept, .ref (A 5), .int mpasts, .ref (A 6), .int mreports, .int mthrown, .ref (A 7), .ref (A 8), .ref (A 9), .int mordering, .int mdetail, .ref (A 10), .int mlength, .int mspot, .int mnumber, .ref (A 11), .int mtolds, .ref (A 12)])), ((A 1), .inl (cy 0, 672, .inl (upd (upd v32 (11 + v31).toNatClampNeg ((v32 (11 + v31).toNatClampNeg) + x33)) (16 + v31).toNatClampNeg (((upd v32 (11 + v31).toNatClampNeg ((v32 (11 + v31).toNatClampNeg) + x33)) (16 + v31).toNatClampNeg) + ((v30 (v31).toNatClampNeg) - x33))))), ((A 2), .inl (cy 0, 672, .inl mkept)), ((A 3), .inl (cy 0, 672, .inl mspare)), ((A 4), .inl (cy 0, 672, .inl mtrial)), ((A 5), .inl (cy 0, 5376, .inl mpast)), ((A 6), .inl (cy 0, 6, .inl mreport)), ((A 7), .inl (cy 0, 5, .inl u2.2)), ((A 8), .inl (cy 0, 5, .inl v30)), ((A 9), .inl (cy 0, 60, .inl morder)), ((A 10), .inl (cy 0, 80, .inl mtext)), ((A 11), .inl (cy 0, 200, .inl mtold)), ((A 12), .inl (cy 0, 672, .inl mahead))]) K 1 0 rfl rfl hw.1 rfl dX9_passes_258 ?_
          replace hw := hw.2
          obtain ⟨x34, ex34⟩ : ∃ z : Int32, z = v31 + 1 := ⟨_, rfl⟩
          replace hw := hw x34 ex34
          refine g_iinc (v := x34) (lv' := [(2, .int x34), (3, .int x33), (1, .int u1), (0, .ref (A 0))]) K 1 dX9_passes_259 rfl (by rw [ex34]; rfl) (by rw [En]; decide) rfl ?_
          refine g_goto (tgt := 203) K dX9_passes_262 (by decide) ?_
          refine gx_locals [0, 2, 3] rfl ?_
          exact ih _ _ hw
    refine key _ (fun v35 v36 hw => ?_) fl _ _ hw
    refine g_iconst (v := 0) K dX9_passes_265 rfl ?_
    refine g_istore_n (lv' := [(2, .int 0), (1, .int u1), (0, .ref (A 0))]) K dX9_passes_266 rfl (by rw [En]; decide) rfl ?_
    obtain ⟨fl, hw⟩ := hw
    have key : ∀ (k267_321 : Int32 → XRow → XRow → Prop), (∀ (v37 : Int32) (v38 : XRow) (v39 : XRow), k267_321 v37 v38 v39 → Gx X 0 0 [((A 0), .inr (10, [.ref (A 1), .ref (A 2), .ref (A 3), .ref (A 4), .int mhasKept, .ref (A 5), .int mpasts, .ref (A 6), .int mreports, .int mthrown, .ref (A 7), .ref (A 8), .ref (A 9), .int mordering, .int mdetail, .ref (A 10), .int mlength, .int mspot, .int mnumber, .ref (A 11), .int mtolds, .ref (A 12)])), ((A 1), .inl (cy 0, 672, .inl v38)), ((A 2), .inl (cy 0, 672, .inl mkept)), ((A 3), .inl (cy 0, 672, .inl mspare)), ((A 4), .inl (cy 0, 672, .inl mtrial)), ((A 5), .inl (cy 0, 5376, .inl mpast)), ((A 6), .inl (cy 0, 6, .inl mreport)), ((A 7), .inl (cy 0, 5, .inl v39)), ((A 8), .inl (cy 0, 5, .inl v30)), ((A 9), .inl (cy 0, 60, .inl morder)), ((A 10), .inl (cy 0, 80, .inl mtext)), ((A 11), .inl (cy 0, 200, .inl mtold)), ((A 12), .inl (cy 0, 672, .inl mahead))] [(2, .int v37), (1, .int u1), (0, .ref (A 0))] 321 []) → ∀ (n : Nat) (v37 : Int32) (v38 : XRow) (v39 : XRow), wp_X9_passes_L267 k267_321 n v37 v38 v39 → Gx X 0 0 [((A 0), .inr (10, [.ref (A 1), .ref (A 2), .ref (A 3), .ref (A 4), .int mhasKept, .ref (A 5), .int mpasts, .ref (A 6), .int mreports, .int mthrown, .ref (A 7), .ref (A 8), .ref (A 9), .int mordering, .int mdetail, .ref (A 10), .int mlength, .int mspot, .int mnumber, .ref (A 11), .int mtolds, .ref (A 12)])), ((A 1), .inl (cy 0, 672, .inl v38)), ((A 2), .inl (cy 0, 672, .inl mkept)), ((A 3), .inl (cy 0, 672, .inl mspare)), ((A 4), .inl (cy 0, 672, .inl mtrial)), ((A 5), .inl (cy 0, 5376, .inl mpast)), ((A 6), .inl (cy 0, 6, .inl mreport)), ((A 7), .inl (cy 0, 5, .inl v39)), ((A 8), .inl (cy 0, 5, .inl v30)), ((A 9), .inl (cy 0, 60, .inl morder)), ((A 10), .inl (cy 0, 80, .inl mtext)), ((A 11), .inl (cy 0, 200, .inl mtold)), ((A 12), .inl (cy 0, 672, .inl mahead))] [(2, .int v37), (1, .int u1), (0, .ref (A 0))] 267 [] := by
      intro k267_321 hx321 n
      induction n with
      | zero => intro v37 v38 v39 hw; exact hw.elim
      | succ n ih =>
        intro v37 v38 v39 hw
        refine g_iload_n K 0 dX9_passes_267 rfl ?_
        refine g_aload_n K 2 dX9_passes_268 rfl ?_
        refine g_get K (C := RX9) (T := TX9) (N := 22) 0 0 in_X9_passes_X9 (by decide +kernel) rfl rfl (by decide) rfl dX9_passes_269 ?_
        refine g_iconst (v := 0) K dX9_passes_272 rfl ?_
        refine g_iald K 1 0 rfl rfl hw.1 dX9_passes_273 ?_
        replace hw := hw.2
        refine g_icmp_ge (tgt := 321) K dX9_passes_274 (by decide) (fun hc => ?_) (fun hc => ?_)
        · replace hw := hw.1 hc
          exact hx321 _ _ _ hw
        · replace hw := hw.2 hc
          obtain ⟨fl, hw⟩ := hw
          have key : ∀ (k277_315 : XRow → XRow → Prop), (∀ (v40 : XRow) (v41 : XRow), k277_315 v40 v41 → Gx X 0 0 [((A 0), .inr (10, [.ref (A 1), .ref (A 2), .ref (A 3), .ref (A 4), .int mhasKept, .ref (A 5), .int mpasts, .ref (A 6), .int mreports, .int mthrown, .ref (A 7), .ref (A 8), .ref (A 9), .int mordering, .int mdetail, .ref (A 10), .int mlength, .int mspot, .int mnumber, .ref (A 11), .int mtolds, .ref (A 12)])), ((A 1), .inl (cy 0, 672, .inl v40)), ((A 2), .inl (cy 0, 672, .inl mkept)), ((A 3), .inl (cy 0, 672, .inl mspare)), ((A 4), .inl (cy 0, 672, .inl mtrial)), ((A 5), .inl (cy 0, 5376, .inl mpast)), ((A 6), .inl (cy 0, 6, .inl mreport)), ((A 7), .inl (cy 0, 5, .inl v41)), ((A 8), .inl (cy 0, 5, .inl v30)), ((A 9), .inl (cy 0, 60, .inl morder)), ((A 10), .inl (cy 0, 80, .inl mtext)), ((A 11), .inl (cy 0, 200, .inl mtold)), ((A 12), .inl (cy 0, 672, .inl mahead))] [(2, .int v37), (1, .int u1), (0, .ref (A 0))] 315 []) → ∀ (n : Nat) (v40 : XRow) (v41 : XRow), wp_X9_passes_L277 v37 k277_315 n v40 v41 → Gx X 0 0 [((A 0), .inr (10, [.ref (A 1), .ref (A 2), .ref (A 3), .ref (A 4), .int mhasKept, .ref (A 5), .int mpasts, .ref (A 6), .int mreports, .int mthrown, .ref (A 7), .ref (A 8), .ref (A 9), .int mordering, .int mdetail, .ref (A 10), .int mlength, .int mspot, .int mnumber, .ref (A 11), .int mtolds, .ref (A 12)])), ((A 1), .inl (cy 0, 672, .inl v40)), ((A 2), .inl (cy 0, 672, .inl mkept)), ((A 3), .inl (cy 0, 672, .inl mspare)), ((A 4), .inl (cy 0, 672, .inl mtrial)), ((A 5), .inl (cy 0, 5376, .inl mpast)), ((A 6), .inl (cy 0, 6, .inl mreport)), ((A 7), .inl (cy 0, 5, .inl v41)), ((A 8), .inl (cy 0, 5, .inl v30)), ((A 9), .inl (cy 0, 60, .inl morder)), ((A 10), .inl (cy 0, 80, .inl mtext)), ((A 11), .inl (cy 0, 200, .inl mtold)), ((A 12), .inl (cy 0, 672, .inl mahead))] [(2, .int v37), (1, .int u1), (0, .ref (A 0))] 277 [] := by
            intro k277_315 hx315 n
            induction n with
            | zero => intro v40 v41 hw; exact hw.elim
            | succ n ih =>
              intro v40 v41 hw
              refine g_aload_n K 2 dX9_passes_277 rfl ?_
              refine g_iload_n K 0 dX9_passes_278 rfl ?_
              refine g_iconst (v := 5) K dX9_passes_279 rfl ?_
              refine g_callSr (st' := fun u42 => [.int u42, .ref (A 0)]) K hR [.int v37, .int 5] [.ref (A 0)] (c_X9_machineAt X.2.1 (gxD X) cy sd v37 5 hw) gX9_passes_X9_machineAt rfl yok_X9_machineAt rfl (by decide) rfl (Nat.le_of_ble_eq_true rfl) dX9_passes_280 [] rfl (by decide) (fun _ => rfl) ⟨rfl, rfl⟩ (fun u42 hw => ?_)
              refine g_callVr (st' := fun u43 => [.int u43]) K hR [.int u42] [] 0 rfl rfl (c_X9_sum X.2.1 (gxD X) cy sd A v40 mkept mspare mtrial mpast mreport v41 v30 morder mtext mtold mahead mhasKept mpasts mreports mthrown mordering mdetail mlength mspot mnumber mtolds u42 hw) gX9_passes_X9_sum rfl yok_X9_sum rfl rfl (by decide) rfl (Nat.le_of_ble_eq_true rfl) dX9_passes_283 [0, 1, 2, 3, 4, 5, 6, 7, 8, 9, 10, 11, 12] rfl (by decide) (fun _ => rfl) ⟨rfl, rfl⟩ (fun u43 hw => ?_)
              refine g_aload_n K 2 dX9_passes_286 rfl ?_
              refine g_get K (C := RX9) (T := TX9) (N := 22) 0 0 in_X9_passes_X9 (by decide +kernel) rfl rfl (by decide) rfl dX9_passes_287 ?_
              refine g_bipush (v := 8) K dX9_passes_290 rfl ?_
              refine g_iald K 1 0 rfl rfl hw.1 dX9_passes_292 ?_
              replace hw := hw.2
              refine g_icmp_lt (tgt := 315) K dX9_passes_293 (by decide) (fun hc => ?_) (fun hc => ?_)
              · replace hw := hw.1 hc
                exact hx315 _ _ hw
              · replace hw := hw.2 hc
                refine g_aload_n K 2 dX9_passes_296 rfl ?_
                refine g_get K (C := RX9) (T := TX9) (N := 22) 0 0 in_X9_passes_X9 (by decide +kernel) rfl rfl (by decide) rfl dX9_passes_297 ?_
                refine g_iconst (v := 2) K dX9_passes_300 rfl ?_
                refine g_iald K 1 0 rfl rfl hw.1 dX9_passes_301 ?_
                replace hw := hw.2
                refine g_bipush (v := 60) K dX9_passes_302 rfl ?_
                refine g_icmp_ge (tgt := 315) K dX9_passes_304 (by decide) (fun hc => ?_) (fun hc => ?_)
                · replace hw := hw.1 hc
                  exact hx315 _ _ hw
                · replace hw := hw.2 hc
                  refine g_aload_n K 2 dX9_passes_307 rfl ?_
                  refine g_iload_n K 0 dX9_passes_308 rfl ?_
                  refine g_callV (st' := fun u44 => []) (ws' := fun u44 => [((A 0), .inr (10, [.ref (A 1), .ref (A 2), .ref (A 3), .ref (A 4), .int mhasKept, .ref (A 5), .int mpasts, .ref (A 6), .int mreports, .int mthrown, .ref (A 7), .ref (A 8), .ref (A 9), .int mordering, .int mdetail, .ref (A 10), .int mlength, .int mspot, .int mnumber, .ref (A 11), .int mtolds, .ref (A 12)])), ((A 1), .inl (cy 0, 672, .inl u44.1)), ((A 2), .inl (cy 0, 672, .inl mkept)), ((A 3), .inl (cy 0, 672, .inl mspare)), ((A 4), .inl (cy 0, 672, .inl mtrial)), ((A 5), .inl (cy 0, 5376, .inl mpast)), ((A 6), .inl (cy 0, 6, .inl mreport)), ((A 7), .inl (cy 0, 5, .inl u44.2)), ((A 8), .inl (cy 0, 5, .inl v30)), ((A 9), .inl (cy 0, 60, .inl morder)), ((A 10), .inl (cy 0, 80, .inl mtext)), ((A 11), .inl (cy 0, 200, .inl mtold)), ((A 12), .inl (cy 0, 672, .inl mahead))]) K hR [.int v37] [] 0 rfl rfl (c_X9_bales X.2.1 (gxD X) cy sd A v40 mkept mspare mtrial mpast mreport v41 v30 morder mtext mtold mahead mhasKept mpasts mreports mthrown mordering mdetail mlength mspot mnumber mtolds v37 hw) gX9_passes_X9_bales rfl yok_X9_bales rfl rfl (by decide) rfl (Nat.le_of_ble_eq_true rfl) dX9_passes_309 [0, 1, 2, 3, 4, 5, 6, 7, 8, 9, 10, 11, 12] rfl (by decide) (fun _ => rfl) (fun _ => rfl) (fun _ => rfl) ⟨rfl, rfl⟩ (fun u44 hw => ?_)
                  refine g_goto (tgt := 277) K dX9_passes_312 (by decide) ?_
                  exact ih _ _ hw
          refine key _ (fun v45 v46 hw => ?_) fl _ _ hw
          obtain ⟨x47, ex47⟩ : ∃ z : Int32, z = v37 + 1 := ⟨_, rfl⟩
          replace hw := hw x47 ex47
          refine g_iinc (v := x47) (lv' := [(2, .int x47), (1, .int u1), (0, .ref (A 0))]) K 0 dX9_passes_315 rfl (by rw [ex47]; rfl) (by rw [En]; decide) rfl ?_
          refine g_goto (tgt := 267) K dX9_passes_318 (by decide) ?_
          exact ih _ _ _ hw
    refine key _ (fun v48 v49 v50 hw => ?_) fl _ _ _ hw
    refine g_aload_n K 2 dX9_passes_321 rfl ?_
    refine g_get K (C := RX9) (T := TX9) (N := 22) 0 0 in_X9_passes_X9 (by decide +kernel) rfl rfl (by decide) rfl dX9_passes_322 ?_
    refine g_iconst (v := 4) K dX9_passes_325 rfl ?_
    refine g_dup2_11 K dX9_passes_326 rfl rfl ?_
    refine g_iald K 1 0 rfl rfl hw.1 dX9_passes_327 ?_
    replace hw := hw.2
    refine g_iconst (v := 1) K dX9_passes_328 rfl ?_
    refine g_iadd K dX9_passes_329 ?_
    refine g_iast (ws' := [((A 0), .inr (10, [.ref (A 1), .ref (A 2), .ref (A 3), .ref (A 4), .int mhasKept, .ref (A 5), .int mpasts, .ref (A 6), .int mreports, .int mthrown, .ref (A 7), .ref (A 8), .ref (A 9), .int mordering, .int mdetail, .ref (A 10), .int mlength, .int mspot, .int mnumber, .ref (A 11), .int mtolds, .ref (A 12)])), ((A 1), .inl (cy 0, 672, .inl (upd v49 ((4 : Int32).toNatClampNeg) ((v49 ((4 : Int32).toNatClampNeg)) + 1)))), ((A 2), .inl (cy 0, 672, .inl mkept)), ((A 3), .inl (cy 0, 672, .inl mspare)), ((A 4), .inl (cy 0, 672, .inl mtrial)), ((A 5), .inl (cy 0, 5376, .inl mpast)), ((A 6), .inl (cy 0, 6, .inl mreport)), ((A 7), .inl (cy 0, 5, .inl v50)), ((A 8), .inl (cy 0, 5, .inl v30)), ((A 9), .inl (cy 0, 60, .inl morder)), ((A 10), .inl (cy 0, 80, .inl mtext)), ((A 11), .inl (cy 0, 200, .inl mtold)), ((A 12), .inl (cy 0, 672, .inl mahead))]) K 1 0 rfl rfl hw.1 rfl dX9_passes_330 ?_
    replace hw := hw.2
    exact g_vret K E Er (upd v49 ((4 : Int32).toNatClampNeg) ((v49 ((4 : Int32).toNatClampNeg)) + 1), v50, v30) hw rfl rfl (Nat.le_refl _) (Nat.le_refl _) dX9_passes_331
  · replace hw := hw.2 hc
    refine g_iload_n K 0 dX9_passes_21 rfl ?_
    refine g_goto (tgt := 32) K dX9_passes_22 (by decide) ?_
    refine g_callV (st' := fun u51 => []) (ws' := fun u51 => [((A 0), .inr (10, [.ref (A 1), .ref (A 2), .ref (A 3), .ref (A 4), .int mhasKept, .ref (A 5), .int mpasts, .ref (A 6), .int mreports, .int mthrown, .ref (A 7), .ref (A 8), .ref (A 9), .int mordering, .int mdetail, .ref (A 10), .int mlength, .int mspot, .int mnumber, .ref (A 11), .int mtolds, .ref (A 12)])), ((A 1), .inl (cy 0, 672, .inl u51.1)), ((A 2), .inl (cy 0, 672, .inl mkept)), ((A 3), .inl (cy 0, 672, .inl mspare)), ((A 4), .inl (cy 0, 672, .inl mtrial)), ((A 5), .inl (cy 0, 5376, .inl mpast)), ((A 6), .inl (cy 0, 6, .inl mreport)), ((A 7), .inl (cy 0, 5, .inl u51.2)), ((A 8), .inl (cy 0, 5, .inl mcome)), ((A 9), .inl (cy 0, 60, .inl morder)), ((A 10), .inl (cy 0, 80, .inl mtext)), ((A 11), .inl (cy 0, 200, .inl mtold)), ((A 12), .inl (cy 0, 672, .inl mahead))]) K hR [.int 11, .int u1] [] 0 rfl rfl (c_X9_takes X.2.1 (gxD X) cy sd A mg mkept mspare mtrial mpast mreport mpart mcome morder mtext mtold mahead mhasKept mpasts mreports mthrown mordering mdetail mlength mspot mnumber mtolds 11 u1 hw) gX9_passes_X9_takes rfl yok_X9_takes rfl rfl (by decide) rfl (Nat.le_of_ble_eq_true rfl) dX9_passes_32 [0, 1, 2, 3, 4, 5, 6, 7, 8, 9, 10, 11, 12] rfl (by decide) (fun _ => rfl) (fun _ => rfl) (fun _ => rfl) ⟨rfl, rfl⟩ (fun u51 hw => ?_)
    refine g_iconst (v := 0) K dX9_passes_35 rfl ?_
    refine g_istore_n (lv' := [(2, .int 0), (1, .int u1), (0, .ref (A 0))]) K dX9_passes_36 rfl (by rw [En]; decide) rfl ?_
    obtain ⟨fl, hw⟩ := hw
    have key : ∀ (k37_60 : Int32 → XRow → Prop), (∀ (v52 : Int32) (v53 : XRow), k37_60 v52 v53 → Gx X 0 0 [((A 0), .inr (10, [.ref (A 1), .ref (A 2), .ref (A 3), .ref (A 4), .int mhasKept, .ref (A 5), .int mpasts, .ref (A 6), .int mreports, .int mthrown, .ref (A 7), .ref (A 8), .ref (A 9), .int mordering, .int mdetail, .ref (A 10), .int mlength, .int mspot, .int mnumber, .ref (A 11), .int mtolds, .ref (A 12)])), ((A 1), .inl (cy 0, 672, .inl u51.1)), ((A 2), .inl (cy 0, 672, .inl mkept)), ((A 3), .inl (cy 0, 672, .inl mspare)), ((A 4), .inl (cy 0, 672, .inl mtrial)), ((A 5), .inl (cy 0, 5376, .inl mpast)), ((A 6), .inl (cy 0, 6, .inl mreport)), ((A 7), .inl (cy 0, 5, .inl u51.2)), ((A 8), .inl (cy 0, 5, .inl v53)), ((A 9), .inl (cy 0, 60, .inl morder)), ((A 10), .inl (cy 0, 80, .inl mtext)), ((A 11), .inl (cy 0, 200, .inl mtold)), ((A 12), .inl (cy 0, 672, .inl mahead))] [(2, .int v52), (1, .int u1), (0, .ref (A 0))] 60 []) → ∀ (n : Nat) (v52 : Int32) (v53 : XRow), wp_X9_passes_L37_1 u51 k37_60 n v52 v53 → Gx X 0 0 [((A 0), .inr (10, [.ref (A 1), .ref (A 2), .ref (A 3), .ref (A 4), .int mhasKept, .ref (A 5), .int mpasts, .ref (A 6), .int mreports, .int mthrown, .ref (A 7), .ref (A 8), .ref (A 9), .int mordering, .int mdetail, .ref (A 10), .int mlength, .int mspot, .int mnumber, .ref (A 11), .int mtolds, .ref (A 12)])), ((A 1), .inl (cy 0, 672, .inl u51.1)), ((A 2), .inl (cy 0, 672, .inl mkept)), ((A 3), .inl (cy 0, 672, .inl mspare)), ((A 4), .inl (cy 0, 672, .inl mtrial)), ((A 5), .inl (cy 0, 5376, .inl mpast)), ((A 6), .inl (cy 0, 6, .inl mreport)), ((A 7), .inl (cy 0, 5, .inl u51.2)), ((A 8), .inl (cy 0, 5, .inl v53)), ((A 9), .inl (cy 0, 60, .inl morder)), ((A 10), .inl (cy 0, 80, .inl mtext)), ((A 11), .inl (cy 0, 200, .inl mtold)), ((A 12), .inl (cy 0, 672, .inl mahead))] [(2, .int v52), (1, .int u1), (0, .ref (A 0))] 37 [] := by
      intro k37_60 hx60 n
      induction n with
      | zero => intro v52 v53 hw; exact hw.elim
      | succ n ih =>
        intro v52 v53 hw
        refine g_iload_n K 0 dX9_passes_37 rfl ?_
        refine g_iconst (v := 5) K dX9_passes_38 rfl ?_
        refine g_icmp_ge (tgt := 60) K dX9_passes_39 (by decide) (fun hc => ?_) (fun hc => ?_)
        · replace hw := hw.1 hc
          exact hx60 _ _ hw
        · replace hw := hw.2 hc
          refine g_aload_n K 2 dX9_passes_42 rfl ?_
          refine g_get K (C := RX9) (T := TX9) (N := 22) 0 11 in_X9_passes_X9 (by decide +kernel) rfl rfl (by decide) rfl dX9_passes_43 ?_
          refine g_iload_n K 0 dX9_passes_46 rfl ?_
          refine g_aload_n K 2 dX9_passes_47 rfl ?_
          refine g_get K (C := RX9) (T := TX9) (N := 22) 0 10 in_X9_passes_X9 (by decide +kernel) rfl rfl (by decide) rfl dX9_passes_48 ?_
          refine g_iload_n K 0 dX9_passes_51 rfl ?_
          refine g_iald K 7 0 rfl rfl hw.1 dX9_passes_52 ?_
          replace hw := hw.2
          refine g_iast (ws' := [((A 0), .inr (10, [.ref (A 1), .ref (A 2), .ref (A 3), .ref (A 4), .int mhasKept, .ref (A 5), .int mpasts, .ref (A 6), .int mreports, .int mthrown, .ref (A 7), .ref (A 8), .ref (A 9), .int mordering, .int mdetail, .ref (A 10), .int mlength, .int mspot, .int mnumber, .ref (A 11), .int mtolds, .ref (A 12)])), ((A 1), .inl (cy 0, 672, .inl u51.1)), ((A 2), .inl (cy 0, 672, .inl mkept)), ((A 3), .inl (cy 0, 672, .inl mspare)), ((A 4), .inl (cy 0, 672, .inl mtrial)), ((A 5), .inl (cy 0, 5376, .inl mpast)), ((A 6), .inl (cy 0, 6, .inl mreport)), ((A 7), .inl (cy 0, 5, .inl u51.2)), ((A 8), .inl (cy 0, 5, .inl (upd v53 (v52).toNatClampNeg (u51.2 (v52).toNatClampNeg)))), ((A 9), .inl (cy 0, 60, .inl morder)), ((A 10), .inl (cy 0, 80, .inl mtext)), ((A 11), .inl (cy 0, 200, .inl mtold)), ((A 12), .inl (cy 0, 672, .inl mahead))]) K 8 0 rfl rfl hw.1 rfl dX9_passes_53 ?_
          replace hw := hw.2
          obtain ⟨x54, ex54⟩ : ∃ z : Int32, z = v52 + 1 := ⟨_, rfl⟩
          replace hw := hw x54 ex54
          refine g_iinc (v := x54) (lv' := [(2, .int x54), (1, .int u1), (0, .ref (A 0))]) K 0 dX9_passes_54 rfl (by rw [ex54]; rfl) (by rw [En]; decide) rfl ?_
          refine g_goto (tgt := 37) K dX9_passes_57 (by decide) ?_
          exact ih _ _ hw
    refine key _ (fun v55 v56 hw => ?_) fl _ _ hw
    refine g_iconst (v := 0) K dX9_passes_60 rfl ?_
    refine g_istore_n (lv' := [(2, .int 0), (1, .int u1), (0, .ref (A 0))]) K dX9_passes_61 rfl (by rw [En]; decide) rfl ?_
    obtain ⟨fl, hw⟩ := hw
    have key : ∀ (k62_201 : Int32 → XRow → XRow → Prop), (∀ (v57 : Int32) (v58 : XRow) (v59 : XRow), k62_201 v57 v58 v59 → Gx X 0 0 [((A 0), .inr (10, [.ref (A 1), .ref (A 2), .ref (A 3), .ref (A 4), .int mhasKept, .ref (A 5), .int mpasts, .ref (A 6), .int mreports, .int mthrown, .ref (A 7), .ref (A 8), .ref (A 9), .int mordering, .int mdetail, .ref (A 10), .int mlength, .int mspot, .int mnumber, .ref (A 11), .int mtolds, .ref (A 12)])), ((A 1), .inl (cy 0, 672, .inl v58)), ((A 2), .inl (cy 0, 672, .inl mkept)), ((A 3), .inl (cy 0, 672, .inl mspare)), ((A 4), .inl (cy 0, 672, .inl mtrial)), ((A 5), .inl (cy 0, 5376, .inl mpast)), ((A 6), .inl (cy 0, 6, .inl mreport)), ((A 7), .inl (cy 0, 5, .inl u51.2)), ((A 8), .inl (cy 0, 5, .inl v59)), ((A 9), .inl (cy 0, 60, .inl morder)), ((A 10), .inl (cy 0, 80, .inl mtext)), ((A 11), .inl (cy 0, 200, .inl mtold)), ((A 12), .inl (cy 0, 672, .inl mahead))] [(2, .int v57), (1, .int u1), (0, .ref (A 0))] 201 []) → ∀ (n : Nat) (v57 : Int32) (v58 : XRow) (v59 : XRow), wp_X9_passes_L62_1 k62_201 n v57 v58 v59 → Gx X 0 0 [((A 0), .inr (10, [.ref (A 1), .ref (A 2), .ref (A 3), .ref (A 4), .int mhasKept, .ref (A 5), .int mpasts, .ref (A 6), .int mreports, .int mthrown, .ref (A 7), .ref (A 8), .ref (A 9), .int mordering, .int mdetail, .ref (A 10), .int mlength, .int mspot, .int mnumber, .ref (A 11), .int mtolds, .ref (A 12)])), ((A 1), .inl (cy 0, 672, .inl v58)), ((A 2), .inl (cy 0, 672, .inl mkept)), ((A 3), .inl (cy 0, 672, .inl mspare)), ((A 4), .inl (cy 0, 672, .inl mtrial)), ((A 5), .inl (cy 0, 5376, .inl mpast)), ((A 6), .inl (cy 0, 6, .inl mreport)), ((A 7), .inl (cy 0, 5, .inl u51.2)), ((A 8), .inl (cy 0, 5, .inl v59)), ((A 9), .inl (cy 0, 60, .inl morder)), ((A 10), .inl (cy 0, 80, .inl mtext)), ((A 11), .inl (cy 0, 200, .inl mtold)), ((A 12), .inl (cy 0, 672, .inl mahead))] [(2, .int v57), (1, .int u1), (0, .ref (A 0))] 62 [] := by
      intro k62_201 hx201 n
      induction n with
      | zero => intro v57 v58 v59 hw; exact hw.elim
      | succ n ih =>
        intro v57 v58 v59 hw
        refine g_iload_n K 0 dX9_passes_62 rfl ?_
        refine g_aload_n K 2 dX9_passes_63 rfl ?_
        refine g_get K (C := RX9) (T := TX9) (N := 22) 0 0 in_X9_passes_X9 (by decide +kernel) rfl rfl (by decide) rfl dX9_passes_64 ?_
        refine g_iconst (v := 0) K dX9_passes_67 rfl ?_
        refine g_iald K 1 0 rfl rfl hw.1 dX9_passes_68 ?_
        replace hw := hw.2
        refine g_icmp_ge (tgt := 201) K dX9_passes_69 (by decide) (fun hc => ?_) (fun hc => ?_)
        · replace hw := hw.1 hc
          exact hx201 _ _ _ hw
        · replace hw := hw.2 hc
          refine g_aload_n K 2 dX9_passes_72 rfl ?_
          refine g_get K (C := RX9) (T := TX9) (N := 22) 0 11 in_X9_passes_X9 (by decide +kernel) rfl rfl (by decide) rfl dX9_passes_73 ?_
          refine g_iconst (v := 0) K dX9_passes_76 rfl ?_
          refine g_iald K 8 0 rfl rfl hw.1 dX9_passes_77 ?_
          replace hw := hw.2
          refine g_aload_n K 2 dX9_passes_78 rfl ?_
          refine g_get K (C := RX9) (T := TX9) (N := 22) 0 11 in_X9_passes_X9 (by decide +kernel) rfl rfl (by decide) rfl dX9_passes_79 ?_
          refine g_iconst (v := 1) K dX9_passes_82 rfl ?_
          refine g_iald K 8 0 rfl rfl hw.1 dX9_passes_83 ?_
          replace hw := hw.2
          refine g_iadd K dX9_passes_84 ?_
          refine g_aload_n K 2 dX9_passes_85 rfl ?_
          refine g_get K (C := RX9) (T := TX9) (N := 22) 0 11 in_X9_passes_X9 (by decide +kernel) rfl rfl (by decide) rfl dX9_passes_86 ?_
          refine g_iconst (v := 2) K dX9_passes_89 rfl ?_
          refine g_iald K 8 0 rfl rfl hw.1 dX9_passes_90 ?_
          replace hw := hw.2
          refine g_iadd K dX9_passes_91 ?_
          refine g_aload_n K 2 dX9_passes_92 rfl ?_
          refine g_get K (C := RX9) (T := TX9) (N := 22) 0 11 in_X9_passes_X9 (by decide +kernel) rfl rfl (by decide) rfl dX9_passes_93 ?_
          refine g_iconst (v := 3) K dX9_passes_96 rfl ?_
          refine g_iald K 8 0 rfl rfl hw.1 dX9_passes_97 ?_
          replace hw := hw.2
          refine g_iadd K dX9_passes_98 ?_
          refine g_aload_n K 2 dX9_passes_99 rfl ?_
          refine g_get K (C := RX9) (T := TX9) (N := 22) 0 11 in_X9_passes_X9 (by decide +kernel) rfl rfl (by decide) rfl dX9_passes_100 ?_
          refine g_iconst (v := 4) K dX9_passes_103 rfl ?_
          refine g_iald K 8 0 rfl rfl hw.1 dX9_passes_104 ?_
          replace hw := hw.2
          refine g_iadd K dX9_passes_105 ?_
          refine g_topi (fun x60 ex60 => ?_)
          replace hw := hw x60 ex60
          refine g_istore_n (lv' := [(3, .int x60), (2, .int v57), (1, .int u1), (0, .ref (A 0))]) K dX9_passes_106 rfl (by rw [En]; decide) rfl ?_
          refine g_iconst (v := 0) K dX9_passes_107 rfl ?_
          refine g_istore (lv' := [(4, .int 0), (3, .int x60), (2, .int v57), (1, .int u1), (0, .ref (A 0))]) K dX9_passes_108 (by rw [En]; decide) rfl ?_
          obtain ⟨fl, hw⟩ := hw
          have key : ∀ (k110_195 : Int32 → XRow → XRow → Prop), (∀ (v61 : Int32) (v62 : XRow) (v63 : XRow), k110_195 v61 v62 v63 → Gx X 0 0 [((A 0), .inr (10, [.ref (A 1), .ref (A 2), .ref (A 3), .ref (A 4), .int mhasKept, .ref (A 5), .int mpasts, .ref (A 6), .int mreports, .int mthrown, .ref (A 7), .ref (A 8), .ref (A 9), .int mordering, .int mdetail, .ref (A 10), .int mlength, .int mspot, .int mnumber, .ref (A 11), .int mtolds, .ref (A 12)])), ((A 1), .inl (cy 0, 672, .inl v62)), ((A 2), .inl (cy 0, 672, .inl mkept)), ((A 3), .inl (cy 0, 672, .inl mspare)), ((A 4), .inl (cy 0, 672, .inl mtrial)), ((A 5), .inl (cy 0, 5376, .inl mpast)), ((A 6), .inl (cy 0, 6, .inl mreport)), ((A 7), .inl (cy 0, 5, .inl u51.2)), ((A 8), .inl (cy 0, 5, .inl v63)), ((A 9), .inl (cy 0, 60, .inl morder)), ((A 10), .inl (cy 0, 80, .inl mtext)), ((A 11), .inl (cy 0, 200, .inl mtold)), ((A 12), .inl (cy 0, 672, .inl mahead))] [(4, .int v61), (3, .int x60), (2, .int v57), (1, .int u1), (0, .ref (A 0))] 195 []) → ∀ (n : Nat) (v61 : Int32) (v62 : XRow) (v63 : XRow), wp_X9_passes_L110_1 x60 v57 k110_195 n v61 v62 v63 → Gx X 0 0 [((A 0), .inr (10, [.ref (A 1), .ref (A 2), .ref (A 3), .ref (A 4), .int mhasKept, .ref (A 5), .int mpasts, .ref (A 6), .int mreports, .int mthrown, .ref (A 7), .ref (A 8), .ref (A 9), .int mordering, .int mdetail, .ref (A 10), .int mlength, .int mspot, .int mnumber, .ref (A 11), .int mtolds, .ref (A 12)])), ((A 1), .inl (cy 0, 672, .inl v62)), ((A 2), .inl (cy 0, 672, .inl mkept)), ((A 3), .inl (cy 0, 672, .inl mspare)), ((A 4), .inl (cy 0, 672, .inl mtrial)), ((A 5), .inl (cy 0, 5376, .inl mpast)), ((A 6), .inl (cy 0, 6, .inl mreport)), ((A 7), .inl (cy 0, 5, .inl u51.2)), ((A 8), .inl (cy 0, 5, .inl v63)), ((A 9), .inl (cy 0, 60, .inl morder)), ((A 10), .inl (cy 0, 80, .inl mtext)), ((A 11), .inl (cy 0, 200, .inl mtold)), ((A 12), .inl (cy 0, 672, .inl mahead))] [(4, .int v61), (3, .int x60), (2, .int v57), (1, .int u1), (0, .ref (A 0))] 110 [] := by
            intro k110_195 hx195 n
            induction n with
            | zero => intro v61 v62 v63 hw; exact hw.elim
            | succ n ih =>
              intro v61 v62 v63 hw
              refine g_iload K 0 dX9_passes_110 rfl ?_
              refine g_iconst (v := 5) K dX9_passes_112 rfl ?_
              refine g_icmp_ge (tgt := 195) K dX9_passes_113 (by decide) (fun hc => ?_) (fun hc => ?_)
              · replace hw := hw.1 hc
                exact hx195 _ _ _ hw
              · replace hw := hw.2 hc
                refine g_aload_n K 4 dX9_passes_116 rfl ?_
                refine g_get K (C := RX9) (T := TX9) (N := 22) 0 11 in_X9_passes_X9 (by decide +kernel) rfl rfl (by decide) rfl dX9_passes_117 ?_
                refine g_iload K 0 dX9_passes_120 rfl ?_
                refine g_iald K 8 0 rfl rfl hw.1 dX9_passes_122 ?_
                replace hw := hw.2
                refine g_iload K 0 dX9_passes_123 rfl ?_
                refine g_aload_n K 4 dX9_passes_125 rfl ?_
                refine g_get K (C := RX9) (T := TX9) (N := 22) 0 0 in_X9_passes_X9 (by decide +kernel) rfl rfl (by decide) rfl dX9_passes_126 ?_
                refine g_iload_n K 2 dX9_passes_129 rfl ?_
                refine g_iconst (v := 0) K dX9_passes_130 rfl ?_
                refine g_callSr (st' := fun u64 => [.int u64, .ref (A 1), .int v61, .int (v63 (v61).toNatClampNeg)]) K hR [.int v57, .int 0] [.ref (A 1), .int v61, .int (v63 (v61).toNatClampNeg)] (c_X9_machineAt X.2.1 (gxD X) cy sd v57 0 hw) gX9_passes_X9_machineAt rfl yok_X9_machineAt rfl (by decide) rfl (Nat.le_of_ble_eq_true rfl) dX9_passes_131 [] rfl (by decide) (fun _ => rfl) ⟨rfl, rfl⟩ (fun u64 hw => ?_)
                refine g_iald K 1 0 rfl rfl hw.1 dX9_passes_134 ?_
                replace hw := hw.2
                refine g_icmp_ne (tgt := 147) K dX9_passes_135 (by decide) (fun hc => ?_) (fun hc => ?_)
                · replace hw := hw.2 hc
                  refine g_aload_n K 4 dX9_passes_147 rfl ?_
                  refine g_iload_n K 2 dX9_passes_148 rfl ?_
                  refine g_iload_n K 1 dX9_passes_149 rfl ?_
                  refine g_callVr (st' := fun u65 => [.int u65, .int (v63 (v61).toNatClampNeg)]) K hR [.int v57, .int x60] [.int (v63 (v61).toNatClampNeg)] 0 rfl rfl (c_X9_mistakes X.2.1 (gxD X) cy sd A v62 mkept mspare mtrial mpast mreport u51.2 v63 morder mtext mtold mahead mhasKept mpasts mreports mthrown mordering mdetail mlength mspot mnumber mtolds v57 x60 hw) gX9_passes_X9_mistakes rfl yok_X9_mistakes rfl rfl (by decide) rfl (Nat.le_of_ble_eq_true rfl) dX9_passes_150 [0, 1, 2, 3, 4, 5, 6, 7, 8, 9, 10, 11, 12] rfl (by decide) (fun _ => rfl) ⟨rfl, rfl⟩ (fun u65 hw => ?_)
                  refine g_imul K dX9_passes_153 ?_
                  refine g_bipush (v := 100) K dX9_passes_154 rfl ?_
                  refine g_idiv K dX9_passes_156 (by decide) ?_
                  refine g_topi (fun x66 ex66 => ?_)
                  replace hw := hw x66 ex66
                  refine g_istore (lv' := [(5, .int x66), (4, .int v61), (3, .int x60), (2, .int v57), (1, .int u1), (0, .ref (A 0))]) K dX9_passes_157 (by rw [En]; decide) rfl ?_
                  refine g_aload_n K 5 dX9_passes_159 rfl ?_
                  refine g_get K (C := RX9) (T := TX9) (N := 22) 0 0 in_X9_passes_X9 (by decide +kernel) rfl rfl (by decide) rfl dX9_passes_160 ?_
                  refine g_iload_n K 3 dX9_passes_163 rfl ?_
                  refine g_iconst (v := 5) K dX9_passes_164 rfl ?_
                  refine g_iload K 1 dX9_passes_165 rfl ?_
                  refine g_iadd K dX9_passes_167 ?_
                  refine g_callSr (st' := fun u67 => [.int u67, .ref (A 1)]) K hR [.int v57, .int (5 + v61)] [.ref (A 1)] (c_X9_machineAt X.2.1 (gxD X) cy sd v57 (5 + v61) hw) gX9_passes_X9_machineAt rfl yok_X9_machineAt rfl (by decide) rfl (Nat.le_of_ble_eq_true rfl) dX9_passes_168 [] rfl (by decide) (fun _ => rfl) ⟨rfl, rfl⟩ (fun u67 hw => ?_)
                  refine g_dup2_11 K dX9_passes_171 rfl rfl ?_
                  refine g_iald K 1 0 rfl rfl hw.1 dX9_passes_172 ?_
                  replace hw := hw.2
                  refine g_iload K 0 dX9_passes_173 rfl ?_
                  refine g_iadd K dX9_passes_175 ?_
                  refine g_iast (ws' := [((A 0), .inr (10, [.ref (A 1), .ref (A 2), .ref (A 3), .ref (A 4), .int mhasKept, .ref (A 5), .int mpasts, .ref (A 6), .int mreports, .int mthrown, .ref (A 7), .ref (A 8), .ref (A 9), .int mordering, .int mdetail, .ref (A 10), .int mlength, .int mspot, .int mnumber, .ref (A 11), .int mtolds, .ref (A 12)])), ((A 1), .inl (cy 0, 672, .inl (upd v62 (u67).toNatClampNeg ((v62 (u67).toNatClampNeg) + x66)))), ((A 2), .inl (cy 0, 672, .inl mkept)), ((A 3), .inl (cy 0, 672, .inl mspare)), ((A 4), .inl (cy 0, 672, .inl mtrial)), ((A 5), .inl (cy 0, 5376, .inl mpast)), ((A 6), .inl (cy 0, 6, .inl mreport)), ((A 7), .inl (cy 0, 5, .inl u51.2)), ((A 8), .inl (cy 0, 5, .inl v63)), ((A 9), .inl (cy 0, 60, .inl morder)), ((A 10), .inl (cy 0, 80, .inl mtext)), ((A 11), .inl (cy 0, 200, .inl mtold)), ((A 12), .inl (cy 0, 672, .inl mahead))]) K 1 0 rfl rfl hw.1 rfl dX9_passes_176 ?_
                  replace hw := hw.2
                  refine g_aload_n K 5 dX9_passes_177 rfl ?_
                  refine g_get K (C := RX9) (T := TX9) (N := 22) 0 11 in_X9_passes_X9 (by decide +kernel) rfl rfl (by decide) rfl dX9_passes_178 ?_
                  refine g_iload K 1 dX9_passes_181 rfl ?_
                  refine g_dup2_11 K dX9_passes_183 rfl rfl ?_
                  refine g_iald K 8 0 rfl rfl hw.1 dX9_passes_184 ?_
                  replace hw := hw.2
                  refine g_iload K 0 dX9_passes_185 rfl ?_
                  refine g_isub K dX9_passes_187 ?_
                  refine g_iast (ws' := [((A 0), .inr (10, [.ref (A 1), .ref (A 2), .ref (A 3), .ref (A 4), .int mhasKept, .ref (A 5), .int mpasts, .ref (A 6), .int mreports, .int mthrown, .ref (A 7), .ref (A 8), .ref (A 9), .int mordering, .int mdetail, .ref (A 10), .int mlength, .int mspot, .int mnumber, .ref (A 11), .int mtolds, .ref (A 12)])), ((A 1), .inl (cy 0, 672, .inl (upd v62 (u67).toNatClampNeg ((v62 (u67).toNatClampNeg) + x66)))), ((A 2), .inl (cy 0, 672, .inl mkept)), ((A 3), .inl (cy 0, 672, .inl mspare)), ((A 4), .inl (cy 0, 672, .inl mtrial)), ((A 5), .inl (cy 0, 5376, .inl mpast)), ((A 6), .inl (cy 0, 6, .inl mreport)), ((A 7), .inl (cy 0, 5, .inl u51.2)), ((A 8), .inl (cy 0, 5, .inl (upd v63 (v61).toNatClampNeg ((v63 (v61).toNatClampNeg) - x66)))), ((A 9), .inl (cy 0, 60, .inl morder)), ((A 10), .inl (cy 0, 80, .inl mtext)), ((A 11), .inl (cy 0, 200, .inl mtold)), ((A 12), .inl (cy 0, 672, .inl mahead))]) K 8 0 rfl rfl hw.1 rfl dX9_passes_188 ?_
                  replace hw := hw.2
                  obtain ⟨x68, ex68⟩ : ∃ z : Int32, z = v61 + 1 := ⟨_, rfl⟩
                  replace hw := hw x68 ex68
                  refine g_iinc (v := x68) (lv' := [(4, .int x68), (5, .int x66), (3, .int x60), (2, .int v57), (1, .int u1), (0, .ref (A 0))]) K 1 dX9_passes_189 rfl (by rw [ex68]; rfl) (by rw [En]; decide) rfl ?_
                  refine g_goto (tgt := 110) K dX9_passes_192 (by decide) ?_
                  refine gx_locals [0, 2, 3, 4, 5] rfl ?_
                  exact ih _ _ _ hw
                · replace hw := hw.1 hc
                  refine g_aload_n K 4 dX9_passes_138 rfl ?_
                  refine g_iload_n K 2 dX9_passes_139 rfl ?_
                  refine g_iload_n K 1 dX9_passes_140 rfl ?_
                  refine g_callVr (st' := fun u69 => [.int u69, .int (v63 (v61).toNatClampNeg)]) K hR [.int v57, .int x60] [.int (v63 (v61).toNatClampNeg)] 0 rfl rfl (c_X9_catches X.2.1 (gxD X) cy sd A v62 mkept mspare mtrial mpast mreport u51.2 v63 morder mtext mtold mahead mhasKept mpasts mreports mthrown mordering mdetail mlength mspot mnumber mtolds v57 x60 hw) gX9_passes_X9_catches rfl yok_X9_catches rfl rfl (by decide) rfl (Nat.le_of_ble_eq_true rfl) dX9_passes_141 [0, 1, 2, 3, 4, 5, 6, 7, 8, 9, 10, 11, 12] rfl (by decide) (fun _ => rfl) ⟨rfl, rfl⟩ (fun u69 hw => ?_)
                  refine g_goto (tgt := 153) K dX9_passes_144 (by decide) ?_
                  refine g_imul K dX9_passes_153 ?_
                  refine g_bipush (v := 100) K dX9_passes_154 rfl ?_
                  refine g_idiv K dX9_passes_156 (by decide) ?_
                  refine g_topi (fun x70 ex70 => ?_)
                  replace hw := hw x70 ex70
                  refine g_istore (lv' := [(5, .int x70), (4, .int v61), (3, .int x60), (2, .int v57), (1, .int u1), (0, .ref (A 0))]) K dX9_passes_157 (by rw [En]; decide) rfl ?_
                  refine g_aload_n K 5 dX9_passes_159 rfl ?_
                  refine g_get K (C := RX9) (T := TX9) (N := 22) 0 0 in_X9_passes_X9 (by decide +kernel) rfl rfl (by decide) rfl dX9_passes_160 ?_
                  refine g_iload_n K 3 dX9_passes_163 rfl ?_
                  refine g_iconst (v := 5) K dX9_passes_164 rfl ?_
                  refine g_iload K 1 dX9_passes_165 rfl ?_
                  refine g_iadd K dX9_passes_167 ?_
                  refine g_callSr (st' := fun u71 => [.int u71, .ref (A 1)]) K hR [.int v57, .int (5 + v61)] [.ref (A 1)] (c_X9_machineAt X.2.1 (gxD X) cy sd v57 (5 + v61) hw) gX9_passes_X9_machineAt rfl yok_X9_machineAt rfl (by decide) rfl (Nat.le_of_ble_eq_true rfl) dX9_passes_168 [] rfl (by decide) (fun _ => rfl) ⟨rfl, rfl⟩ (fun u71 hw => ?_)
                  refine g_dup2_11 K dX9_passes_171 rfl rfl ?_
                  refine g_iald K 1 0 rfl rfl hw.1 dX9_passes_172 ?_
                  replace hw := hw.2
                  refine g_iload K 0 dX9_passes_173 rfl ?_
                  refine g_iadd K dX9_passes_175 ?_
                  refine g_iast (ws' := [((A 0), .inr (10, [.ref (A 1), .ref (A 2), .ref (A 3), .ref (A 4), .int mhasKept, .ref (A 5), .int mpasts, .ref (A 6), .int mreports, .int mthrown, .ref (A 7), .ref (A 8), .ref (A 9), .int mordering, .int mdetail, .ref (A 10), .int mlength, .int mspot, .int mnumber, .ref (A 11), .int mtolds, .ref (A 12)])), ((A 1), .inl (cy 0, 672, .inl (upd v62 (u71).toNatClampNeg ((v62 (u71).toNatClampNeg) + x70)))), ((A 2), .inl (cy 0, 672, .inl mkept)), ((A 3), .inl (cy 0, 672, .inl mspare)), ((A 4), .inl (cy 0, 672, .inl mtrial)), ((A 5), .inl (cy 0, 5376, .inl mpast)), ((A 6), .inl (cy 0, 6, .inl mreport)), ((A 7), .inl (cy 0, 5, .inl u51.2)), ((A 8), .inl (cy 0, 5, .inl v63)), ((A 9), .inl (cy 0, 60, .inl morder)), ((A 10), .inl (cy 0, 80, .inl mtext)), ((A 11), .inl (cy 0, 200, .inl mtold)), ((A 12), .inl (cy 0, 672, .inl mahead))]) K 1 0 rfl rfl hw.1 rfl dX9_passes_176 ?_
                  replace hw := hw.2
                  refine g_aload_n K 5 dX9_passes_177 rfl ?_
                  refine g_get K (C := RX9) (T := TX9) (N := 22) 0 11 in_X9_passes_X9 (by decide +kernel) rfl rfl (by decide) rfl dX9_passes_178 ?_
                  refine g_iload K 1 dX9_passes_181 rfl ?_
                  refine g_dup2_11 K dX9_passes_183 rfl rfl ?_
                  refine g_iald K 8 0 rfl rfl hw.1 dX9_passes_184 ?_
                  replace hw := hw.2
                  refine g_iload K 0 dX9_passes_185 rfl ?_
                  refine g_isub K dX9_passes_187 ?_
                  refine g_iast (ws' := [((A 0), .inr (10, [.ref (A 1), .ref (A 2), .ref (A 3), .ref (A 4), .int mhasKept, .ref (A 5), .int mpasts, .ref (A 6), .int mreports, .int mthrown, .ref (A 7), .ref (A 8), .ref (A 9), .int mordering, .int mdetail, .ref (A 10), .int mlength, .int mspot, .int mnumber, .ref (A 11), .int mtolds, .ref (A 12)])), ((A 1), .inl (cy 0, 672, .inl (upd v62 (u71).toNatClampNeg ((v62 (u71).toNatClampNeg) + x70)))), ((A 2), .inl (cy 0, 672, .inl mkept)), ((A 3), .inl (cy 0, 672, .inl mspare)), ((A 4), .inl (cy 0, 672, .inl mtrial)), ((A 5), .inl (cy 0, 5376, .inl mpast)), ((A 6), .inl (cy 0, 6, .inl mreport)), ((A 7), .inl (cy 0, 5, .inl u51.2)), ((A 8), .inl (cy 0, 5, .inl (upd v63 (v61).toNatClampNeg ((v63 (v61).toNatClampNeg) - x70)))), ((A 9), .inl (cy 0, 60, .inl morder)), ((A 10), .inl (cy 0, 80, .inl mtext)), ((A 11), .inl (cy 0, 200, .inl mtold)), ((A 12), .inl (cy 0, 672, .inl mahead))]) K 8 0 rfl rfl hw.1 rfl dX9_passes_188 ?_
                  replace hw := hw.2
                  obtain ⟨x72, ex72⟩ : ∃ z : Int32, z = v61 + 1 := ⟨_, rfl⟩
                  replace hw := hw x72 ex72
                  refine g_iinc (v := x72) (lv' := [(4, .int x72), (5, .int x70), (3, .int x60), (2, .int v57), (1, .int u1), (0, .ref (A 0))]) K 1 dX9_passes_189 rfl (by rw [ex72]; rfl) (by rw [En]; decide) rfl ?_
                  refine g_goto (tgt := 110) K dX9_passes_192 (by decide) ?_
                  refine gx_locals [0, 2, 3, 4, 5] rfl ?_
                  exact ih _ _ _ hw
          refine key _ (fun v73 v74 v75 hw => ?_) fl _ _ _ hw
          obtain ⟨x76, ex76⟩ : ∃ z : Int32, z = v57 + 1 := ⟨_, rfl⟩
          replace hw := hw x76 ex76
          refine g_iinc (v := x76) (lv' := [(2, .int x76), (4, .int v73), (3, .int x60), (1, .int u1), (0, .ref (A 0))]) K 2 dX9_passes_195 rfl (by rw [ex76]; rfl) (by rw [En]; decide) rfl ?_
          refine g_goto (tgt := 62) K dX9_passes_198 (by decide) ?_
          refine gx_locals [0, 3, 4] rfl ?_
          exact ih _ _ _ hw
    refine key _ (fun v77 v78 v79 hw => ?_) fl _ _ _ hw
    refine g_iconst (v := 0) K dX9_passes_201 rfl ?_
    refine g_istore_n (lv' := [(2, .int 0), (1, .int u1), (0, .ref (A 0))]) K dX9_passes_202 rfl (by rw [En]; decide) rfl ?_
    obtain ⟨fl, hw⟩ := hw
    have key : ∀ (k203_265 : Int32 → XRow → Prop), (∀ (v80 : Int32) (v81 : XRow), k203_265 v80 v81 → Gx X 0 0 [((A 0), .inr (10, [.ref (A 1), .ref (A 2), .ref (A 3), .ref (A 4), .int mhasKept, .ref (A 5), .int mpasts, .ref (A 6), .int mreports, .int mthrown, .ref (A 7), .ref (A 8), .ref (A 9), .int mordering, .int mdetail, .ref (A 10), .int mlength, .int mspot, .int mnumber, .ref (A 11), .int mtolds, .ref (A 12)])), ((A 1), .inl (cy 0, 672, .inl v81)), ((A 2), .inl (cy 0, 672, .inl mkept)), ((A 3), .inl (cy 0, 672, .inl mspare)), ((A 4), .inl (cy 0, 672, .inl mtrial)), ((A 5), .inl (cy 0, 5376, .inl mpast)), ((A 6), .inl (cy 0, 6, .inl mreport)), ((A 7), .inl (cy 0, 5, .inl u51.2)), ((A 8), .inl (cy 0, 5, .inl v79)), ((A 9), .inl (cy 0, 60, .inl morder)), ((A 10), .inl (cy 0, 80, .inl mtext)), ((A 11), .inl (cy 0, 200, .inl mtold)), ((A 12), .inl (cy 0, 672, .inl mahead))] [(2, .int v80), (1, .int u1), (0, .ref (A 0))] 265 []) → ∀ (n : Nat) (v80 : Int32) (v81 : XRow), wp_X9_passes_L203_1 v79 k203_265 n v80 v81 → Gx X 0 0 [((A 0), .inr (10, [.ref (A 1), .ref (A 2), .ref (A 3), .ref (A 4), .int mhasKept, .ref (A 5), .int mpasts, .ref (A 6), .int mreports, .int mthrown, .ref (A 7), .ref (A 8), .ref (A 9), .int mordering, .int mdetail, .ref (A 10), .int mlength, .int mspot, .int mnumber, .ref (A 11), .int mtolds, .ref (A 12)])), ((A 1), .inl (cy 0, 672, .inl v81)), ((A 2), .inl (cy 0, 672, .inl mkept)), ((A 3), .inl (cy 0, 672, .inl mspare)), ((A 4), .inl (cy 0, 672, .inl mtrial)), ((A 5), .inl (cy 0, 5376, .inl mpast)), ((A 6), .inl (cy 0, 6, .inl mreport)), ((A 7), .inl (cy 0, 5, .inl u51.2)), ((A 8), .inl (cy 0, 5, .inl v79)), ((A 9), .inl (cy 0, 60, .inl morder)), ((A 10), .inl (cy 0, 80, .inl mtext)), ((A 11), .inl (cy 0, 200, .inl mtold)), ((A 12), .inl (cy 0, 672, .inl mahead))] [(2, .int v80), (1, .int u1), (0, .ref (A 0))] 203 [] := by
      intro k203_265 hx265 n
      induction n with
      | zero => intro v80 v81 hw; exact hw.elim
      | succ n ih =>
        intro v80 v81 hw
        refine g_iload_n K 0 dX9_passes_203 rfl ?_
        refine g_iconst (v := 5) K dX9_passes_204 rfl ?_
        refine g_icmp_ge (tgt := 265) K dX9_passes_205 (by decide) (fun hc => ?_) (fun hc => ?_)
        · replace hw := hw.1 hc
          exact hx265 _ _ hw
        · replace hw := hw.2 hc
          refine g_aload_n K 2 dX9_passes_208 rfl ?_
          refine g_get K (C := RX9) (T := TX9) (N := 22) 0 11 in_X9_passes_X9 (by decide +kernel) rfl rfl (by decide) rfl dX9_passes_209 ?_
          refine g_iload_n K 0 dX9_passes_212 rfl ?_
          refine g_iald K 8 0 rfl rfl hw.1 dX9_passes_213 ?_
          replace hw := hw.2
          refine g_aload_n K 2 dX9_passes_214 rfl ?_
          refine g_get K (C := RX9) (T := TX9) (N := 22) 0 0 in_X9_passes_X9 (by decide +kernel) rfl rfl (by decide) rfl dX9_passes_215 ?_
          refine g_bipush (v := 7) K dX9_passes_218 rfl ?_
          refine g_iald K 1 0 rfl rfl hw.1 dX9_passes_220 ?_
          replace hw := hw.2
          refine g_imul K dX9_passes_221 ?_
          refine g_bipush (v := 100) K dX9_passes_222 rfl ?_
          refine g_idiv K dX9_passes_224 (by decide) ?_
          refine g_topi (fun x82 ex82 => ?_)
          replace hw := hw x82 ex82
          refine g_istore_n (lv' := [(3, .int x82), (2, .int v80), (1, .int u1), (0, .ref (A 0))]) K dX9_passes_225 rfl (by rw [En]; decide) rfl ?_
          refine g_aload_n K 3 dX9_passes_226 rfl ?_
          refine g_get K (C := RX9) (T := TX9) (N := 22) 0 0 in_X9_passes_X9 (by decide +kernel) rfl rfl (by decide) rfl dX9_passes_227 ?_
          refine g_bipush (v := 11) K dX9_passes_230 rfl ?_
          refine g_iload_n K 1 dX9_passes_232 rfl ?_
          refine g_iadd K dX9_passes_233 ?_
          refine g_dup2_11 K dX9_passes_234 rfl rfl ?_
          refine g_iald K 1 0 rfl rfl hw.1 dX9_passes_235 ?_
          replace hw := hw.2
          refine g_iload_n K 0 dX9_passes_236 rfl ?_
          refine g_iadd K dX9_passes_237 ?_
          refine g_iast (ws' := [((A 0), .inr (10, [.ref (A 1), .ref (A 2), .ref (A 3), .ref (A 4), .int mhasKept, .ref (A 5), .int mpasts, .ref (A 6), .int mreports, .int mthrown, .ref (A 7), .ref (A 8), .ref (A 9), .int mordering, .int mdetail, .ref (A 10), .int mlength, .int mspot, .int mnumber, .ref (A 11), .int mtolds, .ref (A 12)])), ((A 1), .inl (cy 0, 672, .inl (upd v81 (11 + v80).toNatClampNeg ((v81 (11 + v80).toNatClampNeg) + x82)))), ((A 2), .inl (cy 0, 672, .inl mkept)), ((A 3), .inl (cy 0, 672, .inl mspare)), ((A 4), .inl (cy 0, 672, .inl mtrial)), ((A 5), .inl (cy 0, 5376, .inl mpast)), ((A 6), .inl (cy 0, 6, .inl mreport)), ((A 7), .inl (cy 0, 5, .inl u51.2)), ((A 8), .inl (cy 0, 5, .inl v79)), ((A 9), .inl (cy 0, 60, .inl morder)), ((A 10), .inl (cy 0, 80, .inl mtext)), ((A 11), .inl (cy 0, 200, .inl mtold)), ((A 12), .inl (cy 0, 672, .inl mahead))]) K 1 0 rfl rfl hw.1 rfl dX9_passes_238 ?_
          replace hw := hw.2
          refine g_aload_n K 3 dX9_passes_239 rfl ?_
          refine g_get K (C := RX9) (T := TX9) (N := 22) 0 0 in_X9_passes_X9 (by decide +kernel) rfl rfl (by decide) rfl dX9_passes_240 ?_
          refine g_bipush (v := 16) K dX9_passes_243 rfl ?_
          refine g_iload_n K 1 dX9_passes_245 rfl ?_
          refine g_iadd K dX9_passes_246 ?_
          refine g_dup2_11 K dX9_passes_247 rfl rfl ?_
          refine g_iald K 1 0 rfl rfl hw.1 dX9_passes_248 ?_
          replace hw := hw.2
          refine g_aload_n K 3 dX9_passes_249 rfl ?_
          refine g_get K (C := RX9) (T := TX9) (N := 22) 0 11 in_X9_passes_X9 (by decide +kernel) rfl rfl (by decide) rfl dX9_passes_250 ?_
          refine g_iload_n K 1 dX9_passes_253 rfl ?_
          refine g_iald K 8 0 rfl rfl hw.1 dX9_passes_254 ?_
          replace hw := hw.2
          refine g_iload_n K 0 dX9_passes_255 rfl ?_
          refine g_isub K dX9_passes_256 ?_
          refine g_iadd K dX9_passes_257 ?_
          refine g_iast (ws' := [((A 0), .inr (10, [.ref (A 1), .ref (A 2), .ref (A 3), .ref (A 4), .int mhasKept, .ref (A 5), .int mpasts, .ref (A 6), .int mreports, .int mthrown, .ref (A 7), .ref (A 8), .ref (A 9), .int mordering, .int mdetail, .ref (A 10), .int mlength, .int mspot, .int mnumber, .ref (A 11), .int mtolds, .ref (A 12)])), ((A 1), .inl (cy 0, 672, .inl (upd (upd v81 (11 + v80).toNatClampNeg ((v81 (11 + v80).toNatClampNeg) + x82)) (16 + v80).toNatClampNeg (((upd v81 (11 + v80).toNatClampNeg ((v81 (11 + v80).toNatClampNeg) + x82)) (16 + v80).toNatClampNeg) + ((v79 (v80).toNatClampNeg) - x82))))), ((A 2), .inl (cy 0, 672, .inl mkept)), ((A 3), .inl (cy 0, 672, .inl mspare)), ((A 4), .inl (cy 0, 672, .inl mtrial)), ((A 5), .inl (cy 0, 5376, .inl mpast)), ((A 6), .inl (cy 0, 6, .inl mreport)), ((A 7), .inl (cy 0, 5, .inl u51.2)), ((A 8), .inl (cy 0, 5, .inl v79)), ((A 9), .inl (cy 0, 60, .inl morder)), ((A 10), .inl (cy 0, 80, .inl mtext)), ((A 11), .inl (cy 0, 200, .inl mtold)), ((A 12), .inl (cy 0, 672, .inl mahead))]) K 1 0 rfl rfl hw.1 rfl dX9_passes_258 ?_
          replace hw := hw.2
          obtain ⟨x83, ex83⟩ : ∃ z : Int32, z = v80 + 1 := ⟨_, rfl⟩
          replace hw := hw x83 ex83
          refine g_iinc (v := x83) (lv' := [(2, .int x83), (3, .int x82), (1, .int u1), (0, .ref (A 0))]) K 1 dX9_passes_259 rfl (by rw [ex83]; rfl) (by rw [En]; decide) rfl ?_
          refine g_goto (tgt := 203) K dX9_passes_262 (by decide) ?_
          refine gx_locals [0, 2, 3] rfl ?_
          exact ih _ _ hw
    refine key _ (fun v84 v85 hw => ?_) fl _ _ hw
    refine g_iconst (v := 0) K dX9_passes_265 rfl ?_
    refine g_istore_n (lv' := [(2, .int 0), (1, .int u1), (0, .ref (A 0))]) K dX9_passes_266 rfl (by rw [En]; decide) rfl ?_
    obtain ⟨fl, hw⟩ := hw
    have key : ∀ (k267_321 : Int32 → XRow → XRow → Prop), (∀ (v86 : Int32) (v87 : XRow) (v88 : XRow), k267_321 v86 v87 v88 → Gx X 0 0 [((A 0), .inr (10, [.ref (A 1), .ref (A 2), .ref (A 3), .ref (A 4), .int mhasKept, .ref (A 5), .int mpasts, .ref (A 6), .int mreports, .int mthrown, .ref (A 7), .ref (A 8), .ref (A 9), .int mordering, .int mdetail, .ref (A 10), .int mlength, .int mspot, .int mnumber, .ref (A 11), .int mtolds, .ref (A 12)])), ((A 1), .inl (cy 0, 672, .inl v87)), ((A 2), .inl (cy 0, 672, .inl mkept)), ((A 3), .inl (cy 0, 672, .inl mspare)), ((A 4), .inl (cy 0, 672, .inl mtrial)), ((A 5), .inl (cy 0, 5376, .inl mpast)), ((A 6), .inl (cy 0, 6, .inl mreport)), ((A 7), .inl (cy 0, 5, .inl v88)), ((A 8), .inl (cy 0, 5, .inl v79)), ((A 9), .inl (cy 0, 60, .inl morder)), ((A 10), .inl (cy 0, 80, .inl mtext)), ((A 11), .inl (cy 0, 200, .inl mtold)), ((A 12), .inl (cy 0, 672, .inl mahead))] [(2, .int v86), (1, .int u1), (0, .ref (A 0))] 321 []) → ∀ (n : Nat) (v86 : Int32) (v87 : XRow) (v88 : XRow), wp_X9_passes_L267_1 k267_321 n v86 v87 v88 → Gx X 0 0 [((A 0), .inr (10, [.ref (A 1), .ref (A 2), .ref (A 3), .ref (A 4), .int mhasKept, .ref (A 5), .int mpasts, .ref (A 6), .int mreports, .int mthrown, .ref (A 7), .ref (A 8), .ref (A 9), .int mordering, .int mdetail, .ref (A 10), .int mlength, .int mspot, .int mnumber, .ref (A 11), .int mtolds, .ref (A 12)])), ((A 1), .inl (cy 0, 672, .inl v87)), ((A 2), .inl (cy 0, 672, .inl mkept)), ((A 3), .inl (cy 0, 672, .inl mspare)), ((A 4), .inl (cy 0, 672, .inl mtrial)), ((A 5), .inl (cy 0, 5376, .inl mpast)), ((A 6), .inl (cy 0, 6, .inl mreport)), ((A 7), .inl (cy 0, 5, .inl v88)), ((A 8), .inl (cy 0, 5, .inl v79)), ((A 9), .inl (cy 0, 60, .inl morder)), ((A 10), .inl (cy 0, 80, .inl mtext)), ((A 11), .inl (cy 0, 200, .inl mtold)), ((A 12), .inl (cy 0, 672, .inl mahead))] [(2, .int v86), (1, .int u1), (0, .ref (A 0))] 267 [] := by
      intro k267_321 hx321 n
      induction n with
      | zero => intro v86 v87 v88 hw; exact hw.elim
      | succ n ih =>
        intro v86 v87 v88 hw
        refine g_iload_n K 0 dX9_passes_267 rfl ?_
        refine g_aload_n K 2 dX9_passes_268 rfl ?_
        refine g_get K (C := RX9) (T := TX9) (N := 22) 0 0 in_X9_passes_X9 (by decide +kernel) rfl rfl (by decide) rfl dX9_passes_269 ?_
        refine g_iconst (v := 0) K dX9_passes_272 rfl ?_
        refine g_iald K 1 0 rfl rfl hw.1 dX9_passes_273 ?_
        replace hw := hw.2
        refine g_icmp_ge (tgt := 321) K dX9_passes_274 (by decide) (fun hc => ?_) (fun hc => ?_)
        · replace hw := hw.1 hc
          exact hx321 _ _ _ hw
        · replace hw := hw.2 hc
          obtain ⟨fl, hw⟩ := hw
          have key : ∀ (k277_315 : XRow → XRow → Prop), (∀ (v89 : XRow) (v90 : XRow), k277_315 v89 v90 → Gx X 0 0 [((A 0), .inr (10, [.ref (A 1), .ref (A 2), .ref (A 3), .ref (A 4), .int mhasKept, .ref (A 5), .int mpasts, .ref (A 6), .int mreports, .int mthrown, .ref (A 7), .ref (A 8), .ref (A 9), .int mordering, .int mdetail, .ref (A 10), .int mlength, .int mspot, .int mnumber, .ref (A 11), .int mtolds, .ref (A 12)])), ((A 1), .inl (cy 0, 672, .inl v89)), ((A 2), .inl (cy 0, 672, .inl mkept)), ((A 3), .inl (cy 0, 672, .inl mspare)), ((A 4), .inl (cy 0, 672, .inl mtrial)), ((A 5), .inl (cy 0, 5376, .inl mpast)), ((A 6), .inl (cy 0, 6, .inl mreport)), ((A 7), .inl (cy 0, 5, .inl v90)), ((A 8), .inl (cy 0, 5, .inl v79)), ((A 9), .inl (cy 0, 60, .inl morder)), ((A 10), .inl (cy 0, 80, .inl mtext)), ((A 11), .inl (cy 0, 200, .inl mtold)), ((A 12), .inl (cy 0, 672, .inl mahead))] [(2, .int v86), (1, .int u1), (0, .ref (A 0))] 315 []) → ∀ (n : Nat) (v89 : XRow) (v90 : XRow), wp_X9_passes_L277_1 v86 k277_315 n v89 v90 → Gx X 0 0 [((A 0), .inr (10, [.ref (A 1), .ref (A 2), .ref (A 3), .ref (A 4), .int mhasKept, .ref (A 5), .int mpasts, .ref (A 6), .int mreports, .int mthrown, .ref (A 7), .ref (A 8), .ref (A 9), .int mordering, .int mdetail, .ref (A 10), .int mlength, .int mspot, .int mnumber, .ref (A 11), .int mtolds, .ref (A 12)])), ((A 1), .inl (cy 0, 672, .inl v89)), ((A 2), .inl (cy 0, 672, .inl mkept)), ((A 3), .inl (cy 0, 672, .inl mspare)), ((A 4), .inl (cy 0, 672, .inl mtrial)), ((A 5), .inl (cy 0, 5376, .inl mpast)), ((A 6), .inl (cy 0, 6, .inl mreport)), ((A 7), .inl (cy 0, 5, .inl v90)), ((A 8), .inl (cy 0, 5, .inl v79)), ((A 9), .inl (cy 0, 60, .inl morder)), ((A 10), .inl (cy 0, 80, .inl mtext)), ((A 11), .inl (cy 0, 200, .inl mtold)), ((A 12), .inl (cy 0, 672, .inl mahead))] [(2, .int v86), (1, .int u1), (0, .ref (A 0))] 277 [] := by
            intro k277_315 hx315 n
            induction n with
            | zero => intro v89 v90 hw; exact hw.elim
            | succ n ih =>
              intro v89 v90 hw
              refine g_aload_n K 2 dX9_passes_277 rfl ?_
              refine g_iload_n K 0 dX9_passes_278 rfl ?_
              refine g_iconst (v := 5) K dX9_passes_279 rfl ?_
              refine g_callSr (st' := fun u91 => [.int u91, .ref (A 0)]) K hR [.int v86, .int 5] [.ref (A 0)] (c_X9_machineAt X.2.1 (gxD X) cy sd v86 5 hw) gX9_passes_X9_machineAt rfl yok_X9_machineAt rfl (by decide) rfl (Nat.le_of_ble_eq_true rfl) dX9_passes_280 [] rfl (by decide) (fun _ => rfl) ⟨rfl, rfl⟩ (fun u91 hw => ?_)
              refine g_callVr (st' := fun u92 => [.int u92]) K hR [.int u91] [] 0 rfl rfl (c_X9_sum X.2.1 (gxD X) cy sd A v89 mkept mspare mtrial mpast mreport v90 v79 morder mtext mtold mahead mhasKept mpasts mreports mthrown mordering mdetail mlength mspot mnumber mtolds u91 hw) gX9_passes_X9_sum rfl yok_X9_sum rfl rfl (by decide) rfl (Nat.le_of_ble_eq_true rfl) dX9_passes_283 [0, 1, 2, 3, 4, 5, 6, 7, 8, 9, 10, 11, 12] rfl (by decide) (fun _ => rfl) ⟨rfl, rfl⟩ (fun u92 hw => ?_)
              refine g_aload_n K 2 dX9_passes_286 rfl ?_
              refine g_get K (C := RX9) (T := TX9) (N := 22) 0 0 in_X9_passes_X9 (by decide +kernel) rfl rfl (by decide) rfl dX9_passes_287 ?_
              refine g_bipush (v := 8) K dX9_passes_290 rfl ?_
              refine g_iald K 1 0 rfl rfl hw.1 dX9_passes_292 ?_
              replace hw := hw.2
              refine g_icmp_lt (tgt := 315) K dX9_passes_293 (by decide) (fun hc => ?_) (fun hc => ?_)
              · replace hw := hw.1 hc
                exact hx315 _ _ hw
              · replace hw := hw.2 hc
                refine g_aload_n K 2 dX9_passes_296 rfl ?_
                refine g_get K (C := RX9) (T := TX9) (N := 22) 0 0 in_X9_passes_X9 (by decide +kernel) rfl rfl (by decide) rfl dX9_passes_297 ?_
                refine g_iconst (v := 2) K dX9_passes_300 rfl ?_
                refine g_iald K 1 0 rfl rfl hw.1 dX9_passes_301 ?_
                replace hw := hw.2
                refine g_bipush (v := 60) K dX9_passes_302 rfl ?_
                refine g_icmp_ge (tgt := 315) K dX9_passes_304 (by decide) (fun hc => ?_) (fun hc => ?_)
                · replace hw := hw.1 hc
                  exact hx315 _ _ hw
                · replace hw := hw.2 hc
                  refine g_aload_n K 2 dX9_passes_307 rfl ?_
                  refine g_iload_n K 0 dX9_passes_308 rfl ?_
                  refine g_callV (st' := fun u93 => []) (ws' := fun u93 => [((A 0), .inr (10, [.ref (A 1), .ref (A 2), .ref (A 3), .ref (A 4), .int mhasKept, .ref (A 5), .int mpasts, .ref (A 6), .int mreports, .int mthrown, .ref (A 7), .ref (A 8), .ref (A 9), .int mordering, .int mdetail, .ref (A 10), .int mlength, .int mspot, .int mnumber, .ref (A 11), .int mtolds, .ref (A 12)])), ((A 1), .inl (cy 0, 672, .inl u93.1)), ((A 2), .inl (cy 0, 672, .inl mkept)), ((A 3), .inl (cy 0, 672, .inl mspare)), ((A 4), .inl (cy 0, 672, .inl mtrial)), ((A 5), .inl (cy 0, 5376, .inl mpast)), ((A 6), .inl (cy 0, 6, .inl mreport)), ((A 7), .inl (cy 0, 5, .inl u93.2)), ((A 8), .inl (cy 0, 5, .inl v79)), ((A 9), .inl (cy 0, 60, .inl morder)), ((A 10), .inl (cy 0, 80, .inl mtext)), ((A 11), .inl (cy 0, 200, .inl mtold)), ((A 12), .inl (cy 0, 672, .inl mahead))]) K hR [.int v86] [] 0 rfl rfl (c_X9_bales X.2.1 (gxD X) cy sd A v89 mkept mspare mtrial mpast mreport v90 v79 morder mtext mtold mahead mhasKept mpasts mreports mthrown mordering mdetail mlength mspot mnumber mtolds v86 hw) gX9_passes_X9_bales rfl yok_X9_bales rfl rfl (by decide) rfl (Nat.le_of_ble_eq_true rfl) dX9_passes_309 [0, 1, 2, 3, 4, 5, 6, 7, 8, 9, 10, 11, 12] rfl (by decide) (fun _ => rfl) (fun _ => rfl) (fun _ => rfl) ⟨rfl, rfl⟩ (fun u93 hw => ?_)
                  refine g_goto (tgt := 277) K dX9_passes_312 (by decide) ?_
                  exact ih _ _ hw
          refine key _ (fun v94 v95 hw => ?_) fl _ _ hw
          obtain ⟨x96, ex96⟩ : ∃ z : Int32, z = v86 + 1 := ⟨_, rfl⟩
          replace hw := hw x96 ex96
          refine g_iinc (v := x96) (lv' := [(2, .int x96), (1, .int u1), (0, .ref (A 0))]) K 0 dX9_passes_315 rfl (by rw [ex96]; rfl) (by rw [En]; decide) rfl ?_
          refine g_goto (tgt := 267) K dX9_passes_318 (by decide) ?_
          exact ih _ _ _ hw
    refine key _ (fun v97 v98 v99 hw => ?_) fl _ _ _ hw
    refine g_aload_n K 2 dX9_passes_321 rfl ?_
    refine g_get K (C := RX9) (T := TX9) (N := 22) 0 0 in_X9_passes_X9 (by decide +kernel) rfl rfl (by decide) rfl dX9_passes_322 ?_
    refine g_iconst (v := 4) K dX9_passes_325 rfl ?_
    refine g_dup2_11 K dX9_passes_326 rfl rfl ?_
    refine g_iald K 1 0 rfl rfl hw.1 dX9_passes_327 ?_
    replace hw := hw.2
    refine g_iconst (v := 1) K dX9_passes_328 rfl ?_
    refine g_iadd K dX9_passes_329 ?_
    refine g_iast (ws' := [((A 0), .inr (10, [.ref (A 1), .ref (A 2), .ref (A 3), .ref (A 4), .int mhasKept, .ref (A 5), .int mpasts, .ref (A 6), .int mreports, .int mthrown, .ref (A 7), .ref (A 8), .ref (A 9), .int mordering, .int mdetail, .ref (A 10), .int mlength, .int mspot, .int mnumber, .ref (A 11), .int mtolds, .ref (A 12)])), ((A 1), .inl (cy 0, 672, .inl (upd v98 ((4 : Int32).toNatClampNeg) ((v98 ((4 : Int32).toNatClampNeg)) + 1)))), ((A 2), .inl (cy 0, 672, .inl mkept)), ((A 3), .inl (cy 0, 672, .inl mspare)), ((A 4), .inl (cy 0, 672, .inl mtrial)), ((A 5), .inl (cy 0, 5376, .inl mpast)), ((A 6), .inl (cy 0, 6, .inl mreport)), ((A 7), .inl (cy 0, 5, .inl v99)), ((A 8), .inl (cy 0, 5, .inl v79)), ((A 9), .inl (cy 0, 60, .inl morder)), ((A 10), .inl (cy 0, 80, .inl mtext)), ((A 11), .inl (cy 0, 200, .inl mtold)), ((A 12), .inl (cy 0, 672, .inl mahead))]) K 1 0 rfl rfl hw.1 rfl dX9_passes_330 ?_
    replace hw := hw.2
    exact g_vret K E Er (upd v98 ((4 : Int32).toNatClampNeg) ((v98 ((4 : Int32).toNatClampNeg)) + 1), v99, v79) hw rfl rfl (Nat.le_refl _) (Nat.le_refl _) dX9_passes_331

def wp_X9_goesOn_L41 (u1 : XRow) (u2 : XRow × XRow × XRow) (k41_78 : Int32 → Bool → Prop) : Nat → Int32 → Bool → Prop
  | 0, _, _ => False
  | fu + 1, v3, v4 => (21 ≤ v3 → (k41_78 v3 v4)) ∧ (¬ 21 ≤ v3 → ((v4 = true → (∀ x5 : Int32, x5 = v3 + 1 → (wp_X9_goesOn_L41 u1 u2 k41_78 fu x5 true))) ∧ (v4 = false → (vp_in v3 672 ∧ (vp_in v3 672 ∧ (((u2.1 (v3).toNatClampNeg) = (u1 (v3).toNatClampNeg) → (∀ x6 : Int32, x6 = v3 + 1 → (wp_X9_goesOn_L41 u1 u2 k41_78 fu x6 false))) ∧ (¬ (u2.1 (v3).toNatClampNeg) = (u1 (v3).toNatClampNeg) → (∀ x7 : Int32, x7 = v3 + 1 → (wp_X9_goesOn_L41 u1 u2 k41_78 fu x7 true)))))))))
def wp_X9_goesOn_L92 (u1 : XRow) (u2 : XRow × XRow × XRow) (v10 : Int32) (k92_140 : Int32 → Bool → Prop) : Nat → Int32 → Bool → Prop
  | 0, _, _ => False
  | fu + 1, v12, v13 => (5 ≤ v12 → (k92_140 v12 v13)) ∧ (¬ 5 ≤ v12 → ((v13 = true → (∀ x14 : Int32, x14 = v12 + 1 → (wp_X9_goesOn_L92 u1 u2 v10 k92_140 fu x14 true))) ∧ (v13 = false → (wp_X9_machineAt v10 (5 + v12) (fun u15 : Int32 => vp_in u15 672 ∧ (wp_X9_machineAt v10 (5 + v12) (fun u16 : Int32 => vp_in u16 672 ∧ (((u2.1 (u15).toNatClampNeg) = (u1 (u16).toNatClampNeg) → (∀ x17 : Int32, x17 = v12 + 1 → (wp_X9_goesOn_L92 u1 u2 v10 k92_140 fu x17 false))) ∧ (¬ (u2.1 (u15).toNatClampNeg) = (u1 (u16).toNatClampNeg) → (∀ x18 : Int32, x18 = v12 + 1 → (wp_X9_goesOn_L92 u1 u2 v10 k92_140 fu x18 true)))))))))))
def wp_X9_goesOn_L80 (u1 : XRow) (u2 : XRow × XRow × XRow) (k80_146 : Int32 → Bool → Prop) : Nat → Int32 → Bool → Prop
  | 0, _, _ => False
  | fu + 1, v10, v11 => vp_in 0 672 ∧ (((u2.1 ((0 : Int32).toNatClampNeg)) ≤ v10 → (k80_146 v10 v11)) ∧ (¬ (u2.1 ((0 : Int32).toNatClampNeg)) ≤ v10 → (∃ fl, wp_X9_goesOn_L92 u1 u2 v10 (fun (v19 : Int32) (v20 : Bool) => ∀ x21 : Int32, x21 = v10 + 1 → (wp_X9_goesOn_L80 u1 u2 k80_146 fu x21 v20)) fl 0 v11)))
def wp_X9_goesOn_L41_1 (u1 : XRow) (u2 : XRow × XRow × XRow) (k41_78 : Int32 → Bool → Prop) : Nat → Int32 → Bool → Prop
  | 0, _, _ => False
  | fu + 1, v25, v26 => (21 ≤ v25 → (k41_78 v25 v26)) ∧ (¬ 21 ≤ v25 → ((v26 = true → (∀ x27 : Int32, x27 = v25 + 1 → (wp_X9_goesOn_L41_1 u1 u2 k41_78 fu x27 true))) ∧ (v26 = false → (vp_in v25 672 ∧ (vp_in v25 672 ∧ (((u2.1 (v25).toNatClampNeg) = (u1 (v25).toNatClampNeg) → (∀ x28 : Int32, x28 = v25 + 1 → (wp_X9_goesOn_L41_1 u1 u2 k41_78 fu x28 false))) ∧ (¬ (u2.1 (v25).toNatClampNeg) = (u1 (v25).toNatClampNeg) → (∀ x29 : Int32, x29 = v25 + 1 → (wp_X9_goesOn_L41_1 u1 u2 k41_78 fu x29 true)))))))))
def wp_X9_goesOn_L92_1 (u1 : XRow) (u2 : XRow × XRow × XRow) (v32 : Int32) (k92_140 : Int32 → Bool → Prop) : Nat → Int32 → Bool → Prop
  | 0, _, _ => False
  | fu + 1, v34, v35 => (5 ≤ v34 → (k92_140 v34 v35)) ∧ (¬ 5 ≤ v34 → ((v35 = true → (∀ x36 : Int32, x36 = v34 + 1 → (wp_X9_goesOn_L92_1 u1 u2 v32 k92_140 fu x36 true))) ∧ (v35 = false → (wp_X9_machineAt v32 (5 + v34) (fun u37 : Int32 => vp_in u37 672 ∧ (wp_X9_machineAt v32 (5 + v34) (fun u38 : Int32 => vp_in u38 672 ∧ (((u2.1 (u37).toNatClampNeg) = (u1 (u38).toNatClampNeg) → (∀ x39 : Int32, x39 = v34 + 1 → (wp_X9_goesOn_L92_1 u1 u2 v32 k92_140 fu x39 false))) ∧ (¬ (u2.1 (u37).toNatClampNeg) = (u1 (u38).toNatClampNeg) → (∀ x40 : Int32, x40 = v34 + 1 → (wp_X9_goesOn_L92_1 u1 u2 v32 k92_140 fu x40 true)))))))))))
def wp_X9_goesOn_L80_1 (u1 : XRow) (u2 : XRow × XRow × XRow) (k80_146 : Int32 → Bool → Prop) : Nat → Int32 → Bool → Prop
  | 0, _, _ => False
  | fu + 1, v32, v33 => vp_in 0 672 ∧ (((u2.1 ((0 : Int32).toNatClampNeg)) ≤ v32 → (k80_146 v32 v33)) ∧ (¬ (u2.1 ((0 : Int32).toNatClampNeg)) ≤ v32 → (∃ fl, wp_X9_goesOn_L92_1 u1 u2 v32 (fun (v41 : Int32) (v42 : Bool) => ∀ x43 : Int32, x43 = v32 + 1 → (wp_X9_goesOn_L80_1 u1 u2 k80_146 fu x43 v42)) fl 0 v33)))
def wp_X9_goesOn (mg : XRow) (mtrial : XRow) (mpart : XRow) (mcome : XRow) (post : (Bool × XRow × XRow × XRow × XRow) → Prop) : Prop := wp_X9_copies 672 mg 672 mtrial 0 0 (fun u1 : XRow => wp_X9_passes mg mpart mcome (fun u2 : XRow × XRow × XRow => vp_in 2 672 ∧ (vp_in 2 672 ∧ (((u2.1 ((2 : Int32).toNatClampNeg)) = (u1 ((2 : Int32).toNatClampNeg)) → (∃ fl, wp_X9_goesOn_L41 u1 u2 (fun (v8 : Int32) (v9 : Bool) => ∃ fl, wp_X9_goesOn_L80 u1 u2 (fun (v22 : Int32) (v23 : Bool) => (v23 = true → (post (v23, u2.1, u1, u2.2.1, u2.2.2))) ∧ (v23 = false → (wp_X9_copies 672 u1 672 u2.1 0 0 (fun u24 : XRow => post (v23, u24, u1, u2.2.1, u2.2.2))))) fl 0 v9) fl 11 false)) ∧ (¬ (u2.1 ((2 : Int32).toNatClampNeg)) = (u1 ((2 : Int32).toNatClampNeg)) → (∃ fl, wp_X9_goesOn_L41_1 u1 u2 (fun (v30 : Int32) (v31 : Bool) => ∃ fl, wp_X9_goesOn_L80_1 u1 u2 (fun (v44 : Int32) (v45 : Bool) => (v45 = true → (post (v45, u2.1, u1, u2.2.1, u2.2.2))) ∧ (v45 = false → (wp_X9_copies 672 u1 672 u2.1 0 0 (fun u46 : XRow => post (v45, u46, u1, u2.2.1, u2.2.2))))) fl 0 v31) fl 11 true))))))
theorem in_X9_goesOn_X9 : ∀ w ∈ u_ws RX9 TX9 22, w ∈ wsX9_goesOn := by decide +kernel
set_option maxRecDepth 100000 in
set_option maxHeartbeats 4000000 in
theorem c_X9_goesOn (l : Launch) (D : va_G) (cy : Nat → ClassId) (sd : xSd) (A : Nat → Nat) (mg : XRow) (mkept : XRow) (mspare : XRow) (mtrial : XRow) (mpast : XRow) (mreport : XRow) (mpart : XRow) (mcome : XRow) (morder : XRow) (mtext : XRow) (mtold : XRow) (mahead : XRow) (mhasKept : Int32) (mpasts : Int32) (mreports : Int32) (mthrown : Int32) (mordering : Int32) (mdetail : Int32) (mlength : Int32) (mspot : Int32) (mnumber : Int32) (mtolds : Int32) {post : (Bool × XRow × XRow × XRow × XRow) → Prop} (hw : wp_X9_goesOn mg mtrial mpart mcome post) : Ctr l D (xTys cy) sd yX9_goesOn wsX9_goesOn ({ frames := 4, cells := 0, slots := 0, locals := 100 } : Room) [.ref (A 0)] (fun u : Bool × XRow × XRow × XRow × XRow => some (.int (bI u.1))) [((A 0), .inr (10, [.ref (A 1), .ref (A 2), .ref (A 3), .ref (A 4), .int mhasKept, .ref (A 5), .int mpasts, .ref (A 6), .int mreports, .int mthrown, .ref (A 7), .ref (A 8), .ref (A 9), .int mordering, .int mdetail, .ref (A 10), .int mlength, .int mspot, .int mnumber, .ref (A 11), .int mtolds, .ref (A 12)])), ((A 1), .inl (cy 0, 672, .inl mg)), ((A 2), .inl (cy 0, 672, .inl mkept)), ((A 3), .inl (cy 0, 672, .inl mspare)), ((A 4), .inl (cy 0, 672, .inl mtrial)), ((A 5), .inl (cy 0, 5376, .inl mpast)), ((A 6), .inl (cy 0, 6, .inl mreport)), ((A 7), .inl (cy 0, 5, .inl mpart)), ((A 8), .inl (cy 0, 5, .inl mcome)), ((A 9), .inl (cy 0, 60, .inl morder)), ((A 10), .inl (cy 0, 80, .inl mtext)), ((A 11), .inl (cy 0, 200, .inl mtold)), ((A 12), .inl (cy 0, 672, .inl mahead))] (fun u => [((A 0), .inr (10, [.ref (A 1), .ref (A 2), .ref (A 3), .ref (A 4), .int mhasKept, .ref (A 5), .int mpasts, .ref (A 6), .int mreports, .int mthrown, .ref (A 7), .ref (A 8), .ref (A 9), .int mordering, .int mdetail, .ref (A 10), .int mlength, .int mspot, .int mnumber, .ref (A 11), .int mtolds, .ref (A 12)])), ((A 1), .inl (cy 0, 672, .inl u.2.1)), ((A 2), .inl (cy 0, 672, .inl mkept)), ((A 3), .inl (cy 0, 672, .inl mspare)), ((A 4), .inl (cy 0, 672, .inl u.2.2.1)), ((A 5), .inl (cy 0, 5376, .inl mpast)), ((A 6), .inl (cy 0, 6, .inl mreport)), ((A 7), .inl (cy 0, 5, .inl u.2.2.2.1)), ((A 8), .inl (cy 0, 5, .inl u.2.2.2.2)), ((A 9), .inl (cy 0, 60, .inl morder)), ((A 10), .inl (cy 0, 80, .inl mtext)), ((A 11), .inl (cy 0, 200, .inl mtold)), ((A 12), .inl (cy 0, 672, .inl mahead))]) post := by
  refine Ctr.of (cc := cX9_goesOn) (maxL := 4) (ret := (some .boolean)) (lv0 := [(0, .ref (A 0))]) (by decide) rfl (Nat.le_of_ble_eq_true rfl) rfl ?_
  intro X El hR Er Enm ED E En K
  have K : Cx X cX9_goesOn RX9 wsX9_goesOn (xTys cy) sd := K
  have E : X.2.2.2.2.2.2.2.2.2.2.1 = xMQ X (fun u : Bool × XRow × XRow × XRow × XRow => some (.int (bI u.1))) post (fun u => [((A 0), .inr (10, [.ref (A 1), .ref (A 2), .ref (A 3), .ref (A 4), .int mhasKept, .ref (A 5), .int mpasts, .ref (A 6), .int mreports, .int mthrown, .ref (A 7), .ref (A 8), .ref (A 9), .int mordering, .int mdetail, .ref (A 10), .int mlength, .int mspot, .int mnumber, .ref (A 11), .int mtolds, .ref (A 12)])), ((A 1), .inl (cy 0, 672, .inl u.2.1)), ((A 2), .inl (cy 0, 672, .inl mkept)), ((A 3), .inl (cy 0, 672, .inl mspare)), ((A 4), .inl (cy 0, 672, .inl u.2.2.1)), ((A 5), .inl (cy 0, 5376, .inl mpast)), ((A 6), .inl (cy 0, 6, .inl mreport)), ((A 7), .inl (cy 0, 5, .inl u.2.2.2.1)), ((A 8), .inl (cy 0, 5, .inl u.2.2.2.2)), ((A 9), .inl (cy 0, 60, .inl morder)), ((A 10), .inl (cy 0, 80, .inl mtext)), ((A 11), .inl (cy 0, 200, .inl mtold)), ((A 12), .inl (cy 0, 672, .inl mahead))]) 0 0 := E
  unfold wp_X9_goesOn at hw
  refine g_aload_n K 0 dX9_goesOn_0 rfl ?_
  refine g_get K (C := RX9) (T := TX9) (N := 22) 0 0 in_X9_goesOn_X9 (by decide +kernel) rfl rfl (by decide) rfl dX9_goesOn_1 ?_
  refine g_iconst (v := 0) K dX9_goesOn_4 rfl ?_
  refine g_aload_n K 0 dX9_goesOn_5 rfl ?_
  refine g_get K (C := RX9) (T := TX9) (N := 22) 0 3 in_X9_goesOn_X9 (by decide +kernel) rfl rfl (by decide) rfl dX9_goesOn_6 ?_
  refine g_iconst (v := 0) K dX9_goesOn_9 rfl ?_
  refine g_callS (st' := fun u1 => []) (ws' := fun u1 => [((A 0), .inr (10, [.ref (A 1), .ref (A 2), .ref (A 3), .ref (A 4), .int mhasKept, .ref (A 5), .int mpasts, .ref (A 6), .int mreports, .int mthrown, .ref (A 7), .ref (A 8), .ref (A 9), .int mordering, .int mdetail, .ref (A 10), .int mlength, .int mspot, .int mnumber, .ref (A 11), .int mtolds, .ref (A 12)])), ((A 1), .inl (cy 0, 672, .inl mg)), ((A 2), .inl (cy 0, 672, .inl mkept)), ((A 3), .inl (cy 0, 672, .inl mspare)), ((A 4), .inl (cy 0, 672, .inl u1)), ((A 5), .inl (cy 0, 5376, .inl mpast)), ((A 6), .inl (cy 0, 6, .inl mreport)), ((A 7), .inl (cy 0, 5, .inl mpart)), ((A 8), .inl (cy 0, 5, .inl mcome)), ((A 9), .inl (cy 0, 60, .inl morder)), ((A 10), .inl (cy 0, 80, .inl mtext)), ((A 11), .inl (cy 0, 200, .inl mtold)), ((A 12), .inl (cy 0, 672, .inl mahead))]) K hR [.ref (A 1), .int 0, .ref (A 4), .int 0] [] (c_X9_copies X.2.1 (gxD X) cy sd (A 1) (A 4) 672 mg 672 mtrial 0 0 hw) gX9_goesOn_X9_copies rfl yok_X9_copies rfl (by decide) rfl (Nat.le_of_ble_eq_true rfl) dX9_goesOn_10 [1, 4] rfl (by decide) (fun _ => rfl) (fun _ => rfl) (fun _ => rfl) ⟨rfl, rfl⟩ (fun u1 hw => ?_)
  refine g_aload_n K 0 dX9_goesOn_13 rfl ?_
  refine g_callV (st' := fun u2 => []) (ws' := fun u2 => [((A 0), .inr (10, [.ref (A 1), .ref (A 2), .ref (A 3), .ref (A 4), .int mhasKept, .ref (A 5), .int mpasts, .ref (A 6), .int mreports, .int mthrown, .ref (A 7), .ref (A 8), .ref (A 9), .int mordering, .int mdetail, .ref (A 10), .int mlength, .int mspot, .int mnumber, .ref (A 11), .int mtolds, .ref (A 12)])), ((A 1), .inl (cy 0, 672, .inl u2.1)), ((A 2), .inl (cy 0, 672, .inl mkept)), ((A 3), .inl (cy 0, 672, .inl mspare)), ((A 4), .inl (cy 0, 672, .inl u1)), ((A 5), .inl (cy 0, 5376, .inl mpast)), ((A 6), .inl (cy 0, 6, .inl mreport)), ((A 7), .inl (cy 0, 5, .inl u2.2.1)), ((A 8), .inl (cy 0, 5, .inl u2.2.2)), ((A 9), .inl (cy 0, 60, .inl morder)), ((A 10), .inl (cy 0, 80, .inl mtext)), ((A 11), .inl (cy 0, 200, .inl mtold)), ((A 12), .inl (cy 0, 672, .inl mahead))]) K hR [] [] 0 rfl rfl (c_X9_passes X.2.1 (gxD X) cy sd A mg mkept mspare u1 mpast mreport mpart mcome morder mtext mtold mahead mhasKept mpasts mreports mthrown mordering mdetail mlength mspot mnumber mtolds hw) gX9_goesOn_X9_passes rfl yok_X9_passes rfl rfl (by decide) rfl (Nat.le_of_ble_eq_true rfl) dX9_goesOn_14 [0, 1, 2, 3, 4, 5, 6, 7, 8, 9, 10, 11, 12] rfl (by decide) (fun _ => rfl) (fun _ => rfl) (fun _ => rfl) ⟨rfl, rfl⟩ (fun u2 hw => ?_)
  refine g_aload_n K 0 dX9_goesOn_17 rfl ?_
  refine g_get K (C := RX9) (T := TX9) (N := 22) 0 0 in_X9_goesOn_X9 (by decide +kernel) rfl rfl (by decide) rfl dX9_goesOn_18 ?_
  refine g_iconst (v := 2) K dX9_goesOn_21 rfl ?_
  refine g_iald K 1 0 rfl rfl hw.1 dX9_goesOn_22 ?_
  replace hw := hw.2
  refine g_aload_n K 0 dX9_goesOn_23 rfl ?_
  refine g_get K (C := RX9) (T := TX9) (N := 22) 0 3 in_X9_goesOn_X9 (by decide +kernel) rfl rfl (by decide) rfl dX9_goesOn_24 ?_
  refine g_iconst (v := 2) K dX9_goesOn_27 rfl ?_
  refine g_iald K 4 0 rfl rfl hw.1 dX9_goesOn_28 ?_
  replace hw := hw.2
  refine g_icmp_eq (tgt := 36) K dX9_goesOn_29 (by decide) (fun hc => ?_) (fun hc => ?_)
  · replace hw := hw.1 hc
    refine g_iconst (v := 0) K dX9_goesOn_36 rfl ?_
    refine g_istore_n (lv' := [(1, .int 0), (0, .ref (A 0))]) K dX9_goesOn_37 rfl (by rw [En]; decide) rfl ?_
    refine g_bipush (v := 11) K dX9_goesOn_38 rfl ?_
    refine g_istore_n (lv' := [(2, .int 11), (1, .int 0), (0, .ref (A 0))]) K dX9_goesOn_40 rfl (by rw [En]; decide) rfl ?_
    obtain ⟨fl, hw⟩ := hw
    have key : ∀ (k41_78 : Int32 → Bool → Prop), (∀ (v3 : Int32) (v4 : Bool), k41_78 v3 v4 → Gx X 0 0 [((A 0), .inr (10, [.ref (A 1), .ref (A 2), .ref (A 3), .ref (A 4), .int mhasKept, .ref (A 5), .int mpasts, .ref (A 6), .int mreports, .int mthrown, .ref (A 7), .ref (A 8), .ref (A 9), .int mordering, .int mdetail, .ref (A 10), .int mlength, .int mspot, .int mnumber, .ref (A 11), .int mtolds, .ref (A 12)])), ((A 1), .inl (cy 0, 672, .inl u2.1)), ((A 2), .inl (cy 0, 672, .inl mkept)), ((A 3), .inl (cy 0, 672, .inl mspare)), ((A 4), .inl (cy 0, 672, .inl u1)), ((A 5), .inl (cy 0, 5376, .inl mpast)), ((A 6), .inl (cy 0, 6, .inl mreport)), ((A 7), .inl (cy 0, 5, .inl u2.2.1)), ((A 8), .inl (cy 0, 5, .inl u2.2.2)), ((A 9), .inl (cy 0, 60, .inl morder)), ((A 10), .inl (cy 0, 80, .inl mtext)), ((A 11), .inl (cy 0, 200, .inl mtold)), ((A 12), .inl (cy 0, 672, .inl mahead))] [(2, .int v3), (1, .int (bI v4)), (0, .ref (A 0))] 78 []) → ∀ (n : Nat) (v3 : Int32) (v4 : Bool), wp_X9_goesOn_L41 u1 u2 k41_78 n v3 v4 → Gx X 0 0 [((A 0), .inr (10, [.ref (A 1), .ref (A 2), .ref (A 3), .ref (A 4), .int mhasKept, .ref (A 5), .int mpasts, .ref (A 6), .int mreports, .int mthrown, .ref (A 7), .ref (A 8), .ref (A 9), .int mordering, .int mdetail, .ref (A 10), .int mlength, .int mspot, .int mnumber, .ref (A 11), .int mtolds, .ref (A 12)])), ((A 1), .inl (cy 0, 672, .inl u2.1)), ((A 2), .inl (cy 0, 672, .inl mkept)), ((A 3), .inl (cy 0, 672, .inl mspare)), ((A 4), .inl (cy 0, 672, .inl u1)), ((A 5), .inl (cy 0, 5376, .inl mpast)), ((A 6), .inl (cy 0, 6, .inl mreport)), ((A 7), .inl (cy 0, 5, .inl u2.2.1)), ((A 8), .inl (cy 0, 5, .inl u2.2.2)), ((A 9), .inl (cy 0, 60, .inl morder)), ((A 10), .inl (cy 0, 80, .inl mtext)), ((A 11), .inl (cy 0, 200, .inl mtold)), ((A 12), .inl (cy 0, 672, .inl mahead))] [(2, .int v3), (1, .int (bI v4)), (0, .ref (A 0))] 41 [] := by
      intro k41_78 hx78 n
      induction n with
      | zero => intro v3 v4 hw; exact hw.elim
      | succ n ih =>
        intro v3 v4 hw
        refine g_iload_n K 0 dX9_goesOn_41 rfl ?_
        refine g_bipush (v := 21) K dX9_goesOn_42 rfl ?_
        refine g_icmp_ge (tgt := 78) K dX9_goesOn_44 (by decide) (fun hc => ?_) (fun hc => ?_)
        · replace hw := hw.1 hc
          exact hx78 _ _ hw
        · replace hw := hw.2 hc
          refine g_iload_n K 1 dX9_goesOn_47 rfl ?_
          refine g_ifb_ne (tgt := 66) K dX9_goesOn_48 (by decide) (fun hc => ?_) (fun hc => ?_)
          · replace hw := hw.1 hc
            refine g_iconst (v := 1) K dX9_goesOn_66 rfl ?_
            refine g_goto (tgt := 71) K dX9_goesOn_67 (by decide) ?_
            refine g_istore_n (lv' := [(1, .int 1), (2, .int v3), (0, .ref (A 0))]) K dX9_goesOn_71 rfl (by rw [En]; decide) rfl ?_
            obtain ⟨x5, ex5⟩ : ∃ z : Int32, z = v3 + 1 := ⟨_, rfl⟩
            replace hw := hw x5 ex5
            refine g_iinc (v := x5) (lv' := [(2, .int x5), (1, .int 1), (0, .ref (A 0))]) K 1 dX9_goesOn_72 rfl (by rw [ex5]; rfl) (by rw [En]; decide) rfl ?_
            refine g_goto (tgt := 41) K dX9_goesOn_75 (by decide) ?_
            exact ih _ true hw
          · replace hw := hw.2 hc
            refine g_aload_n K 2 dX9_goesOn_51 rfl ?_
            refine g_get K (C := RX9) (T := TX9) (N := 22) 0 0 in_X9_goesOn_X9 (by decide +kernel) rfl rfl (by decide) rfl dX9_goesOn_52 ?_
            refine g_iload_n K 0 dX9_goesOn_55 rfl ?_
            refine g_iald K 1 0 rfl rfl hw.1 dX9_goesOn_56 ?_
            replace hw := hw.2
            refine g_aload_n K 2 dX9_goesOn_57 rfl ?_
            refine g_get K (C := RX9) (T := TX9) (N := 22) 0 3 in_X9_goesOn_X9 (by decide +kernel) rfl rfl (by decide) rfl dX9_goesOn_58 ?_
            refine g_iload_n K 0 dX9_goesOn_61 rfl ?_
            refine g_iald K 4 0 rfl rfl hw.1 dX9_goesOn_62 ?_
            replace hw := hw.2
            refine g_icmp_eq (tgt := 70) K dX9_goesOn_63 (by decide) (fun hc => ?_) (fun hc => ?_)
            · replace hw := hw.1 hc
              refine g_iconst (v := 0) K dX9_goesOn_70 rfl ?_
              refine g_istore_n (lv' := [(1, .int 0), (2, .int v3), (0, .ref (A 0))]) K dX9_goesOn_71 rfl (by rw [En]; decide) rfl ?_
              obtain ⟨x6, ex6⟩ : ∃ z : Int32, z = v3 + 1 := ⟨_, rfl⟩
              replace hw := hw x6 ex6
              refine g_iinc (v := x6) (lv' := [(2, .int x6), (1, .int 0), (0, .ref (A 0))]) K 1 dX9_goesOn_72 rfl (by rw [ex6]; rfl) (by rw [En]; decide) rfl ?_
              refine g_goto (tgt := 41) K dX9_goesOn_75 (by decide) ?_
              exact ih _ false hw
            · replace hw := hw.2 hc
              refine g_iconst (v := 1) K dX9_goesOn_66 rfl ?_
              refine g_goto (tgt := 71) K dX9_goesOn_67 (by decide) ?_
              refine g_istore_n (lv' := [(1, .int 1), (2, .int v3), (0, .ref (A 0))]) K dX9_goesOn_71 rfl (by rw [En]; decide) rfl ?_
              obtain ⟨x7, ex7⟩ : ∃ z : Int32, z = v3 + 1 := ⟨_, rfl⟩
              replace hw := hw x7 ex7
              refine g_iinc (v := x7) (lv' := [(2, .int x7), (1, .int 1), (0, .ref (A 0))]) K 1 dX9_goesOn_72 rfl (by rw [ex7]; rfl) (by rw [En]; decide) rfl ?_
              refine g_goto (tgt := 41) K dX9_goesOn_75 (by decide) ?_
              exact ih _ true hw
    refine key _ (fun v8 v9 hw => ?_) fl _ false hw
    refine g_iconst (v := 0) K dX9_goesOn_78 rfl ?_
    refine g_istore_n (lv' := [(2, .int 0), (1, .int (bI v9)), (0, .ref (A 0))]) K dX9_goesOn_79 rfl (by rw [En]; decide) rfl ?_
    obtain ⟨fl, hw⟩ := hw
    have key : ∀ (k80_146 : Int32 → Bool → Prop), (∀ (v10 : Int32) (v11 : Bool), k80_146 v10 v11 → Gx X 0 0 [((A 0), .inr (10, [.ref (A 1), .ref (A 2), .ref (A 3), .ref (A 4), .int mhasKept, .ref (A 5), .int mpasts, .ref (A 6), .int mreports, .int mthrown, .ref (A 7), .ref (A 8), .ref (A 9), .int mordering, .int mdetail, .ref (A 10), .int mlength, .int mspot, .int mnumber, .ref (A 11), .int mtolds, .ref (A 12)])), ((A 1), .inl (cy 0, 672, .inl u2.1)), ((A 2), .inl (cy 0, 672, .inl mkept)), ((A 3), .inl (cy 0, 672, .inl mspare)), ((A 4), .inl (cy 0, 672, .inl u1)), ((A 5), .inl (cy 0, 5376, .inl mpast)), ((A 6), .inl (cy 0, 6, .inl mreport)), ((A 7), .inl (cy 0, 5, .inl u2.2.1)), ((A 8), .inl (cy 0, 5, .inl u2.2.2)), ((A 9), .inl (cy 0, 60, .inl morder)), ((A 10), .inl (cy 0, 80, .inl mtext)), ((A 11), .inl (cy 0, 200, .inl mtold)), ((A 12), .inl (cy 0, 672, .inl mahead))] [(2, .int v10), (1, .int (bI v11)), (0, .ref (A 0))] 146 []) → ∀ (n : Nat) (v10 : Int32) (v11 : Bool), wp_X9_goesOn_L80 u1 u2 k80_146 n v10 v11 → Gx X 0 0 [((A 0), .inr (10, [.ref (A 1), .ref (A 2), .ref (A 3), .ref (A 4), .int mhasKept, .ref (A 5), .int mpasts, .ref (A 6), .int mreports, .int mthrown, .ref (A 7), .ref (A 8), .ref (A 9), .int mordering, .int mdetail, .ref (A 10), .int mlength, .int mspot, .int mnumber, .ref (A 11), .int mtolds, .ref (A 12)])), ((A 1), .inl (cy 0, 672, .inl u2.1)), ((A 2), .inl (cy 0, 672, .inl mkept)), ((A 3), .inl (cy 0, 672, .inl mspare)), ((A 4), .inl (cy 0, 672, .inl u1)), ((A 5), .inl (cy 0, 5376, .inl mpast)), ((A 6), .inl (cy 0, 6, .inl mreport)), ((A 7), .inl (cy 0, 5, .inl u2.2.1)), ((A 8), .inl (cy 0, 5, .inl u2.2.2)), ((A 9), .inl (cy 0, 60, .inl morder)), ((A 10), .inl (cy 0, 80, .inl mtext)), ((A 11), .inl (cy 0, 200, .inl mtold)), ((A 12), .inl (cy 0, 672, .inl mahead))] [(2, .int v10), (1, .int (bI v11)), (0, .ref (A 0))] 80 [] := by
      intro k80_146 hx146 n
      induction n with
      | zero => intro v10 v11 hw; exact hw.elim
      | succ n ih =>
        intro v10 v11 hw
        refine g_iload_n K 0 dX9_goesOn_80 rfl ?_
        refine g_aload_n K 2 dX9_goesOn_81 rfl ?_
        refine g_get K (C := RX9) (T := TX9) (N := 22) 0 0 in_X9_goesOn_X9 (by decide +kernel) rfl rfl (by decide) rfl dX9_goesOn_82 ?_
        refine g_iconst (v := 0) K dX9_goesOn_85 rfl ?_
        refine g_iald K 1 0 rfl rfl hw.1 dX9_goesOn_86 ?_
        replace hw := hw.2
        refine g_icmp_ge (tgt := 146) K dX9_goesOn_87 (by decide) (fun hc => ?_) (fun hc => ?_)
        · replace hw := hw.1 hc
          exact hx146 _ _ hw
        · replace hw := hw.2 hc
          refine g_iconst (v := 0) K dX9_goesOn_90 rfl ?_
          refine g_istore_n (lv' := [(3, .int 0), (2, .int v10), (1, .int (bI v11)), (0, .ref (A 0))]) K dX9_goesOn_91 rfl (by rw [En]; decide) rfl ?_
          obtain ⟨fl, hw⟩ := hw
          have key : ∀ (k92_140 : Int32 → Bool → Prop), (∀ (v12 : Int32) (v13 : Bool), k92_140 v12 v13 → Gx X 0 0 [((A 0), .inr (10, [.ref (A 1), .ref (A 2), .ref (A 3), .ref (A 4), .int mhasKept, .ref (A 5), .int mpasts, .ref (A 6), .int mreports, .int mthrown, .ref (A 7), .ref (A 8), .ref (A 9), .int mordering, .int mdetail, .ref (A 10), .int mlength, .int mspot, .int mnumber, .ref (A 11), .int mtolds, .ref (A 12)])), ((A 1), .inl (cy 0, 672, .inl u2.1)), ((A 2), .inl (cy 0, 672, .inl mkept)), ((A 3), .inl (cy 0, 672, .inl mspare)), ((A 4), .inl (cy 0, 672, .inl u1)), ((A 5), .inl (cy 0, 5376, .inl mpast)), ((A 6), .inl (cy 0, 6, .inl mreport)), ((A 7), .inl (cy 0, 5, .inl u2.2.1)), ((A 8), .inl (cy 0, 5, .inl u2.2.2)), ((A 9), .inl (cy 0, 60, .inl morder)), ((A 10), .inl (cy 0, 80, .inl mtext)), ((A 11), .inl (cy 0, 200, .inl mtold)), ((A 12), .inl (cy 0, 672, .inl mahead))] [(3, .int v12), (2, .int v10), (1, .int (bI v13)), (0, .ref (A 0))] 140 []) → ∀ (n : Nat) (v12 : Int32) (v13 : Bool), wp_X9_goesOn_L92 u1 u2 v10 k92_140 n v12 v13 → Gx X 0 0 [((A 0), .inr (10, [.ref (A 1), .ref (A 2), .ref (A 3), .ref (A 4), .int mhasKept, .ref (A 5), .int mpasts, .ref (A 6), .int mreports, .int mthrown, .ref (A 7), .ref (A 8), .ref (A 9), .int mordering, .int mdetail, .ref (A 10), .int mlength, .int mspot, .int mnumber, .ref (A 11), .int mtolds, .ref (A 12)])), ((A 1), .inl (cy 0, 672, .inl u2.1)), ((A 2), .inl (cy 0, 672, .inl mkept)), ((A 3), .inl (cy 0, 672, .inl mspare)), ((A 4), .inl (cy 0, 672, .inl u1)), ((A 5), .inl (cy 0, 5376, .inl mpast)), ((A 6), .inl (cy 0, 6, .inl mreport)), ((A 7), .inl (cy 0, 5, .inl u2.2.1)), ((A 8), .inl (cy 0, 5, .inl u2.2.2)), ((A 9), .inl (cy 0, 60, .inl morder)), ((A 10), .inl (cy 0, 80, .inl mtext)), ((A 11), .inl (cy 0, 200, .inl mtold)), ((A 12), .inl (cy 0, 672, .inl mahead))] [(3, .int v12), (2, .int v10), (1, .int (bI v13)), (0, .ref (A 0))] 92 [] := by
            intro k92_140 hx140 n
            induction n with
            | zero => intro v12 v13 hw; exact hw.elim
            | succ n ih =>
              intro v12 v13 hw
              refine g_iload_n K 0 dX9_goesOn_92 rfl ?_
              refine g_iconst (v := 5) K dX9_goesOn_93 rfl ?_
              refine g_icmp_ge (tgt := 140) K dX9_goesOn_94 (by decide) (fun hc => ?_) (fun hc => ?_)
              · replace hw := hw.1 hc
                exact hx140 _ _ hw
              · replace hw := hw.2 hc
                refine g_iload_n K 2 dX9_goesOn_97 rfl ?_
                refine g_ifb_ne (tgt := 128) K dX9_goesOn_98 (by decide) (fun hc => ?_) (fun hc => ?_)
                · replace hw := hw.1 hc
                  refine g_iconst (v := 1) K dX9_goesOn_128 rfl ?_
                  refine g_goto (tgt := 133) K dX9_goesOn_129 (by decide) ?_
                  refine g_istore_n (lv' := [(1, .int 1), (3, .int v12), (2, .int v10), (0, .ref (A 0))]) K dX9_goesOn_133 rfl (by rw [En]; decide) rfl ?_
                  obtain ⟨x14, ex14⟩ : ∃ z : Int32, z = v12 + 1 := ⟨_, rfl⟩
                  replace hw := hw x14 ex14
                  refine g_iinc (v := x14) (lv' := [(3, .int x14), (1, .int 1), (2, .int v10), (0, .ref (A 0))]) K 1 dX9_goesOn_134 rfl (by rw [ex14]; rfl) (by rw [En]; decide) rfl ?_
                  refine g_goto (tgt := 92) K dX9_goesOn_137 (by decide) ?_
                  refine gx_locals [0, 2, 1, 3] rfl ?_
                  exact ih _ true hw
                · replace hw := hw.2 hc
                  refine g_aload_n K 3 dX9_goesOn_101 rfl ?_
                  refine g_get K (C := RX9) (T := TX9) (N := 22) 0 0 in_X9_goesOn_X9 (by decide +kernel) rfl rfl (by decide) rfl dX9_goesOn_102 ?_
                  refine g_iload_n K 1 dX9_goesOn_105 rfl ?_
                  refine g_iconst (v := 5) K dX9_goesOn_106 rfl ?_
                  refine g_iload_n K 0 dX9_goesOn_107 rfl ?_
                  refine g_iadd K dX9_goesOn_108 ?_
                  refine g_callSr (st' := fun u15 => [.int u15, .ref (A 1)]) K hR [.int v10, .int (5 + v12)] [.ref (A 1)] (c_X9_machineAt X.2.1 (gxD X) cy sd v10 (5 + v12) hw) gX9_goesOn_X9_machineAt rfl yok_X9_machineAt rfl (by decide) rfl (Nat.le_of_ble_eq_true rfl) dX9_goesOn_109 [] rfl (by decide) (fun _ => rfl) ⟨rfl, rfl⟩ (fun u15 hw => ?_)
                  refine g_iald K 1 0 rfl rfl hw.1 dX9_goesOn_112 ?_
                  replace hw := hw.2
                  refine g_aload_n K 3 dX9_goesOn_113 rfl ?_
                  refine g_get K (C := RX9) (T := TX9) (N := 22) 0 3 in_X9_goesOn_X9 (by decide +kernel) rfl rfl (by decide) rfl dX9_goesOn_114 ?_
                  refine g_iload_n K 1 dX9_goesOn_117 rfl ?_
                  refine g_iconst (v := 5) K dX9_goesOn_118 rfl ?_
                  refine g_iload_n K 0 dX9_goesOn_119 rfl ?_
                  refine g_iadd K dX9_goesOn_120 ?_
                  refine g_callSr (st' := fun u16 => [.int u16, .ref (A 4), .int (u2.1 (u15).toNatClampNeg)]) K hR [.int v10, .int (5 + v12)] [.ref (A 4), .int (u2.1 (u15).toNatClampNeg)] (c_X9_machineAt X.2.1 (gxD X) cy sd v10 (5 + v12) hw) gX9_goesOn_X9_machineAt rfl yok_X9_machineAt rfl (by decide) rfl (Nat.le_of_ble_eq_true rfl) dX9_goesOn_121 [] rfl (by decide) (fun _ => rfl) ⟨rfl, rfl⟩ (fun u16 hw => ?_)
                  refine g_iald K 4 0 rfl rfl hw.1 dX9_goesOn_124 ?_
                  replace hw := hw.2
                  refine g_icmp_eq (tgt := 132) K dX9_goesOn_125 (by decide) (fun hc => ?_) (fun hc => ?_)
                  · replace hw := hw.1 hc
                    refine g_iconst (v := 0) K dX9_goesOn_132 rfl ?_
                    refine g_istore_n (lv' := [(1, .int 0), (3, .int v12), (2, .int v10), (0, .ref (A 0))]) K dX9_goesOn_133 rfl (by rw [En]; decide) rfl ?_
                    obtain ⟨x17, ex17⟩ : ∃ z : Int32, z = v12 + 1 := ⟨_, rfl⟩
                    replace hw := hw x17 ex17
                    refine g_iinc (v := x17) (lv' := [(3, .int x17), (1, .int 0), (2, .int v10), (0, .ref (A 0))]) K 1 dX9_goesOn_134 rfl (by rw [ex17]; rfl) (by rw [En]; decide) rfl ?_
                    refine g_goto (tgt := 92) K dX9_goesOn_137 (by decide) ?_
                    refine gx_locals [0, 2, 1, 3] rfl ?_
                    exact ih _ false hw
                  · replace hw := hw.2 hc
                    refine g_iconst (v := 1) K dX9_goesOn_128 rfl ?_
                    refine g_goto (tgt := 133) K dX9_goesOn_129 (by decide) ?_
                    refine g_istore_n (lv' := [(1, .int 1), (3, .int v12), (2, .int v10), (0, .ref (A 0))]) K dX9_goesOn_133 rfl (by rw [En]; decide) rfl ?_
                    obtain ⟨x18, ex18⟩ : ∃ z : Int32, z = v12 + 1 := ⟨_, rfl⟩
                    replace hw := hw x18 ex18
                    refine g_iinc (v := x18) (lv' := [(3, .int x18), (1, .int 1), (2, .int v10), (0, .ref (A 0))]) K 1 dX9_goesOn_134 rfl (by rw [ex18]; rfl) (by rw [En]; decide) rfl ?_
                    refine g_goto (tgt := 92) K dX9_goesOn_137 (by decide) ?_
                    refine gx_locals [0, 2, 1, 3] rfl ?_
                    exact ih _ true hw
          refine key _ (fun v19 v20 hw => ?_) fl _ _ hw
          obtain ⟨x21, ex21⟩ : ∃ z : Int32, z = v10 + 1 := ⟨_, rfl⟩
          replace hw := hw x21 ex21
          refine g_iinc (v := x21) (lv' := [(2, .int x21), (3, .int v19), (1, .int (bI v20)), (0, .ref (A 0))]) K 1 dX9_goesOn_140 rfl (by rw [ex21]; rfl) (by rw [En]; decide) rfl ?_
          refine g_goto (tgt := 80) K dX9_goesOn_143 (by decide) ?_
          refine gx_locals [0, 2, 3] rfl ?_
          exact ih _ _ hw
    refine key _ (fun v22 v23 hw => ?_) fl _ _ hw
    refine g_iload_n K 1 dX9_goesOn_146 rfl ?_
    refine g_ifb_ne (tgt := 163) K dX9_goesOn_147 (by decide) (fun hc => ?_) (fun hc => ?_)
    · replace hw := hw.1 hc
      refine g_iload_n K 1 dX9_goesOn_163 rfl ?_
      exact g_zret K E Er (v23, u2.1, u1, u2.2.1, u2.2.2) hw rfl (bI_narrow _) rfl (Nat.le_refl _) (Nat.le_refl _) dX9_goesOn_164
    · replace hw := hw.2 hc
      refine g_aload_n K 2 dX9_goesOn_150 rfl ?_
      refine g_get K (C := RX9) (T := TX9) (N := 22) 0 3 in_X9_goesOn_X9 (by decide +kernel) rfl rfl (by decide) rfl dX9_goesOn_151 ?_
      refine g_iconst (v := 0) K dX9_goesOn_154 rfl ?_
      refine g_aload_n K 2 dX9_goesOn_155 rfl ?_
      refine g_get K (C := RX9) (T := TX9) (N := 22) 0 0 in_X9_goesOn_X9 (by decide +kernel) rfl rfl (by decide) rfl dX9_goesOn_156 ?_
      refine g_iconst (v := 0) K dX9_goesOn_159 rfl ?_
      refine g_callS (st' := fun u24 => []) (ws' := fun u24 => [((A 0), .inr (10, [.ref (A 1), .ref (A 2), .ref (A 3), .ref (A 4), .int mhasKept, .ref (A 5), .int mpasts, .ref (A 6), .int mreports, .int mthrown, .ref (A 7), .ref (A 8), .ref (A 9), .int mordering, .int mdetail, .ref (A 10), .int mlength, .int mspot, .int mnumber, .ref (A 11), .int mtolds, .ref (A 12)])), ((A 1), .inl (cy 0, 672, .inl u24)), ((A 2), .inl (cy 0, 672, .inl mkept)), ((A 3), .inl (cy 0, 672, .inl mspare)), ((A 4), .inl (cy 0, 672, .inl u1)), ((A 5), .inl (cy 0, 5376, .inl mpast)), ((A 6), .inl (cy 0, 6, .inl mreport)), ((A 7), .inl (cy 0, 5, .inl u2.2.1)), ((A 8), .inl (cy 0, 5, .inl u2.2.2)), ((A 9), .inl (cy 0, 60, .inl morder)), ((A 10), .inl (cy 0, 80, .inl mtext)), ((A 11), .inl (cy 0, 200, .inl mtold)), ((A 12), .inl (cy 0, 672, .inl mahead))]) K hR [.ref (A 4), .int 0, .ref (A 1), .int 0] [] (c_X9_copies X.2.1 (gxD X) cy sd (A 4) (A 1) 672 u1 672 u2.1 0 0 hw) gX9_goesOn_X9_copies rfl yok_X9_copies rfl (by decide) rfl (Nat.le_of_ble_eq_true rfl) dX9_goesOn_160 [4, 1] rfl (by decide) (fun _ => rfl) (fun _ => rfl) (fun _ => rfl) ⟨rfl, rfl⟩ (fun u24 hw => ?_)
      refine g_iload_n K 1 dX9_goesOn_163 rfl ?_
      exact g_zret K E Er (v23, u24, u1, u2.2.1, u2.2.2) hw rfl (bI_narrow _) rfl (Nat.le_refl _) (Nat.le_refl _) dX9_goesOn_164
  · replace hw := hw.2 hc
    refine g_iconst (v := 1) K dX9_goesOn_32 rfl ?_
    refine g_goto (tgt := 37) K dX9_goesOn_33 (by decide) ?_
    refine g_istore_n (lv' := [(1, .int 1), (0, .ref (A 0))]) K dX9_goesOn_37 rfl (by rw [En]; decide) rfl ?_
    refine g_bipush (v := 11) K dX9_goesOn_38 rfl ?_
    refine g_istore_n (lv' := [(2, .int 11), (1, .int 1), (0, .ref (A 0))]) K dX9_goesOn_40 rfl (by rw [En]; decide) rfl ?_
    obtain ⟨fl, hw⟩ := hw
    have key : ∀ (k41_78 : Int32 → Bool → Prop), (∀ (v25 : Int32) (v26 : Bool), k41_78 v25 v26 → Gx X 0 0 [((A 0), .inr (10, [.ref (A 1), .ref (A 2), .ref (A 3), .ref (A 4), .int mhasKept, .ref (A 5), .int mpasts, .ref (A 6), .int mreports, .int mthrown, .ref (A 7), .ref (A 8), .ref (A 9), .int mordering, .int mdetail, .ref (A 10), .int mlength, .int mspot, .int mnumber, .ref (A 11), .int mtolds, .ref (A 12)])), ((A 1), .inl (cy 0, 672, .inl u2.1)), ((A 2), .inl (cy 0, 672, .inl mkept)), ((A 3), .inl (cy 0, 672, .inl mspare)), ((A 4), .inl (cy 0, 672, .inl u1)), ((A 5), .inl (cy 0, 5376, .inl mpast)), ((A 6), .inl (cy 0, 6, .inl mreport)), ((A 7), .inl (cy 0, 5, .inl u2.2.1)), ((A 8), .inl (cy 0, 5, .inl u2.2.2)), ((A 9), .inl (cy 0, 60, .inl morder)), ((A 10), .inl (cy 0, 80, .inl mtext)), ((A 11), .inl (cy 0, 200, .inl mtold)), ((A 12), .inl (cy 0, 672, .inl mahead))] [(2, .int v25), (1, .int (bI v26)), (0, .ref (A 0))] 78 []) → ∀ (n : Nat) (v25 : Int32) (v26 : Bool), wp_X9_goesOn_L41_1 u1 u2 k41_78 n v25 v26 → Gx X 0 0 [((A 0), .inr (10, [.ref (A 1), .ref (A 2), .ref (A 3), .ref (A 4), .int mhasKept, .ref (A 5), .int mpasts, .ref (A 6), .int mreports, .int mthrown, .ref (A 7), .ref (A 8), .ref (A 9), .int mordering, .int mdetail, .ref (A 10), .int mlength, .int mspot, .int mnumber, .ref (A 11), .int mtolds, .ref (A 12)])), ((A 1), .inl (cy 0, 672, .inl u2.1)), ((A 2), .inl (cy 0, 672, .inl mkept)), ((A 3), .inl (cy 0, 672, .inl mspare)), ((A 4), .inl (cy 0, 672, .inl u1)), ((A 5), .inl (cy 0, 5376, .inl mpast)), ((A 6), .inl (cy 0, 6, .inl mreport)), ((A 7), .inl (cy 0, 5, .inl u2.2.1)), ((A 8), .inl (cy 0, 5, .inl u2.2.2)), ((A 9), .inl (cy 0, 60, .inl morder)), ((A 10), .inl (cy 0, 80, .inl mtext)), ((A 11), .inl (cy 0, 200, .inl mtold)), ((A 12), .inl (cy 0, 672, .inl mahead))] [(2, .int v25), (1, .int (bI v26)), (0, .ref (A 0))] 41 [] := by
      intro k41_78 hx78 n
      induction n with
      | zero => intro v25 v26 hw; exact hw.elim
      | succ n ih =>
        intro v25 v26 hw
        refine g_iload_n K 0 dX9_goesOn_41 rfl ?_
        refine g_bipush (v := 21) K dX9_goesOn_42 rfl ?_
        refine g_icmp_ge (tgt := 78) K dX9_goesOn_44 (by decide) (fun hc => ?_) (fun hc => ?_)
        · replace hw := hw.1 hc
          exact hx78 _ _ hw
        · replace hw := hw.2 hc
          refine g_iload_n K 1 dX9_goesOn_47 rfl ?_
          refine g_ifb_ne (tgt := 66) K dX9_goesOn_48 (by decide) (fun hc => ?_) (fun hc => ?_)
          · replace hw := hw.1 hc
            refine g_iconst (v := 1) K dX9_goesOn_66 rfl ?_
            refine g_goto (tgt := 71) K dX9_goesOn_67 (by decide) ?_
            refine g_istore_n (lv' := [(1, .int 1), (2, .int v25), (0, .ref (A 0))]) K dX9_goesOn_71 rfl (by rw [En]; decide) rfl ?_
            obtain ⟨x27, ex27⟩ : ∃ z : Int32, z = v25 + 1 := ⟨_, rfl⟩
            replace hw := hw x27 ex27
            refine g_iinc (v := x27) (lv' := [(2, .int x27), (1, .int 1), (0, .ref (A 0))]) K 1 dX9_goesOn_72 rfl (by rw [ex27]; rfl) (by rw [En]; decide) rfl ?_
            refine g_goto (tgt := 41) K dX9_goesOn_75 (by decide) ?_
            exact ih _ true hw
          · replace hw := hw.2 hc
            refine g_aload_n K 2 dX9_goesOn_51 rfl ?_
            refine g_get K (C := RX9) (T := TX9) (N := 22) 0 0 in_X9_goesOn_X9 (by decide +kernel) rfl rfl (by decide) rfl dX9_goesOn_52 ?_
            refine g_iload_n K 0 dX9_goesOn_55 rfl ?_
            refine g_iald K 1 0 rfl rfl hw.1 dX9_goesOn_56 ?_
            replace hw := hw.2
            refine g_aload_n K 2 dX9_goesOn_57 rfl ?_
            refine g_get K (C := RX9) (T := TX9) (N := 22) 0 3 in_X9_goesOn_X9 (by decide +kernel) rfl rfl (by decide) rfl dX9_goesOn_58 ?_
            refine g_iload_n K 0 dX9_goesOn_61 rfl ?_
            refine g_iald K 4 0 rfl rfl hw.1 dX9_goesOn_62 ?_
            replace hw := hw.2
            refine g_icmp_eq (tgt := 70) K dX9_goesOn_63 (by decide) (fun hc => ?_) (fun hc => ?_)
            · replace hw := hw.1 hc
              refine g_iconst (v := 0) K dX9_goesOn_70 rfl ?_
              refine g_istore_n (lv' := [(1, .int 0), (2, .int v25), (0, .ref (A 0))]) K dX9_goesOn_71 rfl (by rw [En]; decide) rfl ?_
              obtain ⟨x28, ex28⟩ : ∃ z : Int32, z = v25 + 1 := ⟨_, rfl⟩
              replace hw := hw x28 ex28
              refine g_iinc (v := x28) (lv' := [(2, .int x28), (1, .int 0), (0, .ref (A 0))]) K 1 dX9_goesOn_72 rfl (by rw [ex28]; rfl) (by rw [En]; decide) rfl ?_
              refine g_goto (tgt := 41) K dX9_goesOn_75 (by decide) ?_
              exact ih _ false hw
            · replace hw := hw.2 hc
              refine g_iconst (v := 1) K dX9_goesOn_66 rfl ?_
              refine g_goto (tgt := 71) K dX9_goesOn_67 (by decide) ?_
              refine g_istore_n (lv' := [(1, .int 1), (2, .int v25), (0, .ref (A 0))]) K dX9_goesOn_71 rfl (by rw [En]; decide) rfl ?_
              obtain ⟨x29, ex29⟩ : ∃ z : Int32, z = v25 + 1 := ⟨_, rfl⟩
              replace hw := hw x29 ex29
              refine g_iinc (v := x29) (lv' := [(2, .int x29), (1, .int 1), (0, .ref (A 0))]) K 1 dX9_goesOn_72 rfl (by rw [ex29]; rfl) (by rw [En]; decide) rfl ?_
              refine g_goto (tgt := 41) K dX9_goesOn_75 (by decide) ?_
              exact ih _ true hw
    refine key _ (fun v30 v31 hw => ?_) fl _ true hw
    refine g_iconst (v := 0) K dX9_goesOn_78 rfl ?_
    refine g_istore_n (lv' := [(2, .int 0), (1, .int (bI v31)), (0, .ref (A 0))]) K dX9_goesOn_79 rfl (by rw [En]; decide) rfl ?_
    obtain ⟨fl, hw⟩ := hw
    have key : ∀ (k80_146 : Int32 → Bool → Prop), (∀ (v32 : Int32) (v33 : Bool), k80_146 v32 v33 → Gx X 0 0 [((A 0), .inr (10, [.ref (A 1), .ref (A 2), .ref (A 3), .ref (A 4), .int mhasKept, .ref (A 5), .int mpasts, .ref (A 6), .int mreports, .int mthrown, .ref (A 7), .ref (A 8), .ref (A 9), .int mordering, .int mdetail, .ref (A 10), .int mlength, .int mspot, .int mnumber, .ref (A 11), .int mtolds, .ref (A 12)])), ((A 1), .inl (cy 0, 672, .inl u2.1)), ((A 2), .inl (cy 0, 672, .inl mkept)), ((A 3), .inl (cy 0, 672, .inl mspare)), ((A 4), .inl (cy 0, 672, .inl u1)), ((A 5), .inl (cy 0, 5376, .inl mpast)), ((A 6), .inl (cy 0, 6, .inl mreport)), ((A 7), .inl (cy 0, 5, .inl u2.2.1)), ((A 8), .inl (cy 0, 5, .inl u2.2.2)), ((A 9), .inl (cy 0, 60, .inl morder)), ((A 10), .inl (cy 0, 80, .inl mtext)), ((A 11), .inl (cy 0, 200, .inl mtold)), ((A 12), .inl (cy 0, 672, .inl mahead))] [(2, .int v32), (1, .int (bI v33)), (0, .ref (A 0))] 146 []) → ∀ (n : Nat) (v32 : Int32) (v33 : Bool), wp_X9_goesOn_L80_1 u1 u2 k80_146 n v32 v33 → Gx X 0 0 [((A 0), .inr (10, [.ref (A 1), .ref (A 2), .ref (A 3), .ref (A 4), .int mhasKept, .ref (A 5), .int mpasts, .ref (A 6), .int mreports, .int mthrown, .ref (A 7), .ref (A 8), .ref (A 9), .int mordering, .int mdetail, .ref (A 10), .int mlength, .int mspot, .int mnumber, .ref (A 11), .int mtolds, .ref (A 12)])), ((A 1), .inl (cy 0, 672, .inl u2.1)), ((A 2), .inl (cy 0, 672, .inl mkept)), ((A 3), .inl (cy 0, 672, .inl mspare)), ((A 4), .inl (cy 0, 672, .inl u1)), ((A 5), .inl (cy 0, 5376, .inl mpast)), ((A 6), .inl (cy 0, 6, .inl mreport)), ((A 7), .inl (cy 0, 5, .inl u2.2.1)), ((A 8), .inl (cy 0, 5, .inl u2.2.2)), ((A 9), .inl (cy 0, 60, .inl morder)), ((A 10), .inl (cy 0, 80, .inl mtext)), ((A 11), .inl (cy 0, 200, .inl mtold)), ((A 12), .inl (cy 0, 672, .inl mahead))] [(2, .int v32), (1, .int (bI v33)), (0, .ref (A 0))] 80 [] := by
      intro k80_146 hx146 n
      induction n with
      | zero => intro v32 v33 hw; exact hw.elim
      | succ n ih =>
        intro v32 v33 hw
        refine g_iload_n K 0 dX9_goesOn_80 rfl ?_
        refine g_aload_n K 2 dX9_goesOn_81 rfl ?_
        refine g_get K (C := RX9) (T := TX9) (N := 22) 0 0 in_X9_goesOn_X9 (by decide +kernel) rfl rfl (by decide) rfl dX9_goesOn_82 ?_
        refine g_iconst (v := 0) K dX9_goesOn_85 rfl ?_
        refine g_iald K 1 0 rfl rfl hw.1 dX9_goesOn_86 ?_
        replace hw := hw.2
        refine g_icmp_ge (tgt := 146) K dX9_goesOn_87 (by decide) (fun hc => ?_) (fun hc => ?_)
        · replace hw := hw.1 hc
          exact hx146 _ _ hw
        · replace hw := hw.2 hc
          refine g_iconst (v := 0) K dX9_goesOn_90 rfl ?_
          refine g_istore_n (lv' := [(3, .int 0), (2, .int v32), (1, .int (bI v33)), (0, .ref (A 0))]) K dX9_goesOn_91 rfl (by rw [En]; decide) rfl ?_
          obtain ⟨fl, hw⟩ := hw
          have key : ∀ (k92_140 : Int32 → Bool → Prop), (∀ (v34 : Int32) (v35 : Bool), k92_140 v34 v35 → Gx X 0 0 [((A 0), .inr (10, [.ref (A 1), .ref (A 2), .ref (A 3), .ref (A 4), .int mhasKept, .ref (A 5), .int mpasts, .ref (A 6), .int mreports, .int mthrown, .ref (A 7), .ref (A 8), .ref (A 9), .int mordering, .int mdetail, .ref (A 10), .int mlength, .int mspot, .int mnumber, .ref (A 11), .int mtolds, .ref (A 12)])), ((A 1), .inl (cy 0, 672, .inl u2.1)), ((A 2), .inl (cy 0, 672, .inl mkept)), ((A 3), .inl (cy 0, 672, .inl mspare)), ((A 4), .inl (cy 0, 672, .inl u1)), ((A 5), .inl (cy 0, 5376, .inl mpast)), ((A 6), .inl (cy 0, 6, .inl mreport)), ((A 7), .inl (cy 0, 5, .inl u2.2.1)), ((A 8), .inl (cy 0, 5, .inl u2.2.2)), ((A 9), .inl (cy 0, 60, .inl morder)), ((A 10), .inl (cy 0, 80, .inl mtext)), ((A 11), .inl (cy 0, 200, .inl mtold)), ((A 12), .inl (cy 0, 672, .inl mahead))] [(3, .int v34), (2, .int v32), (1, .int (bI v35)), (0, .ref (A 0))] 140 []) → ∀ (n : Nat) (v34 : Int32) (v35 : Bool), wp_X9_goesOn_L92_1 u1 u2 v32 k92_140 n v34 v35 → Gx X 0 0 [((A 0), .inr (10, [.ref (A 1), .ref (A 2), .ref (A 3), .ref (A 4), .int mhasKept, .ref (A 5), .int mpasts, .ref (A 6), .int mreports, .int mthrown, .ref (A 7), .ref (A 8), .ref (A 9), .int mordering, .int mdetail, .ref (A 10), .int mlength, .int mspot, .int mnumber, .ref (A 11), .int mtolds, .ref (A 12)])), ((A 1), .inl (cy 0, 672, .inl u2.1)), ((A 2), .inl (cy 0, 672, .inl mkept)), ((A 3), .inl (cy 0, 672, .inl mspare)), ((A 4), .inl (cy 0, 672, .inl u1)), ((A 5), .inl (cy 0, 5376, .inl mpast)), ((A 6), .inl (cy 0, 6, .inl mreport)), ((A 7), .inl (cy 0, 5, .inl u2.2.1)), ((A 8), .inl (cy 0, 5, .inl u2.2.2)), ((A 9), .inl (cy 0, 60, .inl morder)), ((A 10), .inl (cy 0, 80, .inl mtext)), ((A 11), .inl (cy 0, 200, .inl mtold)), ((A 12), .inl (cy 0, 672, .inl mahead))] [(3, .int v34), (2, .int v32), (1, .int (bI v35)), (0, .ref (A 0))] 92 [] := by
            intro k92_140 hx140 n
            induction n with
            | zero => intro v34 v35 hw; exact hw.elim
            | succ n ih =>
              intro v34 v35 hw
              refine g_iload_n K 0 dX9_goesOn_92 rfl ?_
              refine g_iconst (v := 5) K dX9_goesOn_93 rfl ?_
              refine g_icmp_ge (tgt := 140) K dX9_goesOn_94 (by decide) (fun hc => ?_) (fun hc => ?_)
              · replace hw := hw.1 hc
                exact hx140 _ _ hw
              · replace hw := hw.2 hc
                refine g_iload_n K 2 dX9_goesOn_97 rfl ?_
                refine g_ifb_ne (tgt := 128) K dX9_goesOn_98 (by decide) (fun hc => ?_) (fun hc => ?_)
                · replace hw := hw.1 hc
                  refine g_iconst (v := 1) K dX9_goesOn_128 rfl ?_
                  refine g_goto (tgt := 133) K dX9_goesOn_129 (by decide) ?_
                  refine g_istore_n (lv' := [(1, .int 1), (3, .int v34), (2, .int v32), (0, .ref (A 0))]) K dX9_goesOn_133 rfl (by rw [En]; decide) rfl ?_
                  obtain ⟨x36, ex36⟩ : ∃ z : Int32, z = v34 + 1 := ⟨_, rfl⟩
                  replace hw := hw x36 ex36
                  refine g_iinc (v := x36) (lv' := [(3, .int x36), (1, .int 1), (2, .int v32), (0, .ref (A 0))]) K 1 dX9_goesOn_134 rfl (by rw [ex36]; rfl) (by rw [En]; decide) rfl ?_
                  refine g_goto (tgt := 92) K dX9_goesOn_137 (by decide) ?_
                  refine gx_locals [0, 2, 1, 3] rfl ?_
                  exact ih _ true hw
                · replace hw := hw.2 hc
                  refine g_aload_n K 3 dX9_goesOn_101 rfl ?_
                  refine g_get K (C := RX9) (T := TX9) (N := 22) 0 0 in_X9_goesOn_X9 (by decide +kernel) rfl rfl (by decide) rfl dX9_goesOn_102 ?_
                  refine g_iload_n K 1 dX9_goesOn_105 rfl ?_
                  refine g_iconst (v := 5) K dX9_goesOn_106 rfl ?_
                  refine g_iload_n K 0 dX9_goesOn_107 rfl ?_
                  refine g_iadd K dX9_goesOn_108 ?_
                  refine g_callSr (st' := fun u37 => [.int u37, .ref (A 1)]) K hR [.int v32, .int (5 + v34)] [.ref (A 1)] (c_X9_machineAt X.2.1 (gxD X) cy sd v32 (5 + v34) hw) gX9_goesOn_X9_machineAt rfl yok_X9_machineAt rfl (by decide) rfl (Nat.le_of_ble_eq_true rfl) dX9_goesOn_109 [] rfl (by decide) (fun _ => rfl) ⟨rfl, rfl⟩ (fun u37 hw => ?_)
                  refine g_iald K 1 0 rfl rfl hw.1 dX9_goesOn_112 ?_
                  replace hw := hw.2
                  refine g_aload_n K 3 dX9_goesOn_113 rfl ?_
                  refine g_get K (C := RX9) (T := TX9) (N := 22) 0 3 in_X9_goesOn_X9 (by decide +kernel) rfl rfl (by decide) rfl dX9_goesOn_114 ?_
                  refine g_iload_n K 1 dX9_goesOn_117 rfl ?_
                  refine g_iconst (v := 5) K dX9_goesOn_118 rfl ?_
                  refine g_iload_n K 0 dX9_goesOn_119 rfl ?_
                  refine g_iadd K dX9_goesOn_120 ?_
                  refine g_callSr (st' := fun u38 => [.int u38, .ref (A 4), .int (u2.1 (u37).toNatClampNeg)]) K hR [.int v32, .int (5 + v34)] [.ref (A 4), .int (u2.1 (u37).toNatClampNeg)] (c_X9_machineAt X.2.1 (gxD X) cy sd v32 (5 + v34) hw) gX9_goesOn_X9_machineAt rfl yok_X9_machineAt rfl (by decide) rfl (Nat.le_of_ble_eq_true rfl) dX9_goesOn_121 [] rfl (by decide) (fun _ => rfl) ⟨rfl, rfl⟩ (fun u38 hw => ?_)
                  refine g_iald K 4 0 rfl rfl hw.1 dX9_goesOn_124 ?_
                  replace hw := hw.2
                  refine g_icmp_eq (tgt := 132) K dX9_goesOn_125 (by decide) (fun hc => ?_) (fun hc => ?_)
                  · replace hw := hw.1 hc
                    refine g_iconst (v := 0) K dX9_goesOn_132 rfl ?_
                    refine g_istore_n (lv' := [(1, .int 0), (3, .int v34), (2, .int v32), (0, .ref (A 0))]) K dX9_goesOn_133 rfl (by rw [En]; decide) rfl ?_
                    obtain ⟨x39, ex39⟩ : ∃ z : Int32, z = v34 + 1 := ⟨_, rfl⟩
                    replace hw := hw x39 ex39
                    refine g_iinc (v := x39) (lv' := [(3, .int x39), (1, .int 0), (2, .int v32), (0, .ref (A 0))]) K 1 dX9_goesOn_134 rfl (by rw [ex39]; rfl) (by rw [En]; decide) rfl ?_
                    refine g_goto (tgt := 92) K dX9_goesOn_137 (by decide) ?_
                    refine gx_locals [0, 2, 1, 3] rfl ?_
                    exact ih _ false hw
                  · replace hw := hw.2 hc
                    refine g_iconst (v := 1) K dX9_goesOn_128 rfl ?_
                    refine g_goto (tgt := 133) K dX9_goesOn_129 (by decide) ?_
                    refine g_istore_n (lv' := [(1, .int 1), (3, .int v34), (2, .int v32), (0, .ref (A 0))]) K dX9_goesOn_133 rfl (by rw [En]; decide) rfl ?_
                    obtain ⟨x40, ex40⟩ : ∃ z : Int32, z = v34 + 1 := ⟨_, rfl⟩
                    replace hw := hw x40 ex40
                    refine g_iinc (v := x40) (lv' := [(3, .int x40), (1, .int 1), (2, .int v32), (0, .ref (A 0))]) K 1 dX9_goesOn_134 rfl (by rw [ex40]; rfl) (by rw [En]; decide) rfl ?_
                    refine g_goto (tgt := 92) K dX9_goesOn_137 (by decide) ?_
                    refine gx_locals [0, 2, 1, 3] rfl ?_
                    exact ih _ true hw
          refine key _ (fun v41 v42 hw => ?_) fl _ _ hw
          obtain ⟨x43, ex43⟩ : ∃ z : Int32, z = v32 + 1 := ⟨_, rfl⟩
          replace hw := hw x43 ex43
          refine g_iinc (v := x43) (lv' := [(2, .int x43), (3, .int v41), (1, .int (bI v42)), (0, .ref (A 0))]) K 1 dX9_goesOn_140 rfl (by rw [ex43]; rfl) (by rw [En]; decide) rfl ?_
          refine g_goto (tgt := 80) K dX9_goesOn_143 (by decide) ?_
          refine gx_locals [0, 2, 3] rfl ?_
          exact ih _ _ hw
    refine key _ (fun v44 v45 hw => ?_) fl _ _ hw
    refine g_iload_n K 1 dX9_goesOn_146 rfl ?_
    refine g_ifb_ne (tgt := 163) K dX9_goesOn_147 (by decide) (fun hc => ?_) (fun hc => ?_)
    · replace hw := hw.1 hc
      refine g_iload_n K 1 dX9_goesOn_163 rfl ?_
      exact g_zret K E Er (v45, u2.1, u1, u2.2.1, u2.2.2) hw rfl (bI_narrow _) rfl (Nat.le_refl _) (Nat.le_refl _) dX9_goesOn_164
    · replace hw := hw.2 hc
      refine g_aload_n K 2 dX9_goesOn_150 rfl ?_
      refine g_get K (C := RX9) (T := TX9) (N := 22) 0 3 in_X9_goesOn_X9 (by decide +kernel) rfl rfl (by decide) rfl dX9_goesOn_151 ?_
      refine g_iconst (v := 0) K dX9_goesOn_154 rfl ?_
      refine g_aload_n K 2 dX9_goesOn_155 rfl ?_
      refine g_get K (C := RX9) (T := TX9) (N := 22) 0 0 in_X9_goesOn_X9 (by decide +kernel) rfl rfl (by decide) rfl dX9_goesOn_156 ?_
      refine g_iconst (v := 0) K dX9_goesOn_159 rfl ?_
      refine g_callS (st' := fun u46 => []) (ws' := fun u46 => [((A 0), .inr (10, [.ref (A 1), .ref (A 2), .ref (A 3), .ref (A 4), .int mhasKept, .ref (A 5), .int mpasts, .ref (A 6), .int mreports, .int mthrown, .ref (A 7), .ref (A 8), .ref (A 9), .int mordering, .int mdetail, .ref (A 10), .int mlength, .int mspot, .int mnumber, .ref (A 11), .int mtolds, .ref (A 12)])), ((A 1), .inl (cy 0, 672, .inl u46)), ((A 2), .inl (cy 0, 672, .inl mkept)), ((A 3), .inl (cy 0, 672, .inl mspare)), ((A 4), .inl (cy 0, 672, .inl u1)), ((A 5), .inl (cy 0, 5376, .inl mpast)), ((A 6), .inl (cy 0, 6, .inl mreport)), ((A 7), .inl (cy 0, 5, .inl u2.2.1)), ((A 8), .inl (cy 0, 5, .inl u2.2.2)), ((A 9), .inl (cy 0, 60, .inl morder)), ((A 10), .inl (cy 0, 80, .inl mtext)), ((A 11), .inl (cy 0, 200, .inl mtold)), ((A 12), .inl (cy 0, 672, .inl mahead))]) K hR [.ref (A 4), .int 0, .ref (A 1), .int 0] [] (c_X9_copies X.2.1 (gxD X) cy sd (A 4) (A 1) 672 u1 672 u2.1 0 0 hw) gX9_goesOn_X9_copies rfl yok_X9_copies rfl (by decide) rfl (Nat.le_of_ble_eq_true rfl) dX9_goesOn_160 [4, 1] rfl (by decide) (fun _ => rfl) (fun _ => rfl) (fun _ => rfl) ⟨rfl, rfl⟩ (fun u46 hw => ?_)
      refine g_iload_n K 1 dX9_goesOn_163 rfl ?_
      exact g_zret K E Er (v45, u46, u1, u2.2.1, u2.2.2) hw rfl (bI_narrow _) rfl (Nat.le_refl _) (Nat.le_refl _) dX9_goesOn_164

def wp_X9_againstRun (mg : XRow) (p0 : Int32) (post : Int32 → Prop) : Prop := wp_X9_in p0 1 200 (fun u1 : Bool => (u1 = true → (vp_in 0 672 ∧ (((mg ((0 : Int32).toNatClampNeg)) = 0 → (post 2)) ∧ (¬ (mg ((0 : Int32).toNatClampNeg)) = 0 → (post 0))))) ∧ (u1 = false → (post 1)))
theorem in_X9_againstRun_X9 : ∀ w ∈ u_ws RX9 TX9 22, w ∈ wsX9_againstRun := by decide +kernel
set_option maxRecDepth 100000 in
set_option maxHeartbeats 4000000 in
theorem c_X9_againstRun (l : Launch) (D : va_G) (cy : Nat → ClassId) (sd : xSd) (A : Nat → Nat) (mg : XRow) (mkept : XRow) (mspare : XRow) (mtrial : XRow) (mpast : XRow) (mreport : XRow) (mpart : XRow) (mcome : XRow) (morder : XRow) (mtext : XRow) (mtold : XRow) (mahead : XRow) (mhasKept : Int32) (mpasts : Int32) (mreports : Int32) (mthrown : Int32) (mordering : Int32) (mdetail : Int32) (mlength : Int32) (mspot : Int32) (mnumber : Int32) (mtolds : Int32) (p0 : Int32) {post : Int32 → Prop} (hw : wp_X9_againstRun mg p0 post) : Ctr l D (xTys cy) sd yX9_againstRun wsX9_againstRun ({ frames := 1, cells := 0, slots := 0, locals := 22 } : Room) [.ref (A 0), .int p0] (fun u : Int32 => some (.int u)) [((A 0), .inr (10, [.ref (A 1), .ref (A 2), .ref (A 3), .ref (A 4), .int mhasKept, .ref (A 5), .int mpasts, .ref (A 6), .int mreports, .int mthrown, .ref (A 7), .ref (A 8), .ref (A 9), .int mordering, .int mdetail, .ref (A 10), .int mlength, .int mspot, .int mnumber, .ref (A 11), .int mtolds, .ref (A 12)])), ((A 1), .inl (cy 0, 672, .inl mg)), ((A 2), .inl (cy 0, 672, .inl mkept)), ((A 3), .inl (cy 0, 672, .inl mspare)), ((A 4), .inl (cy 0, 672, .inl mtrial)), ((A 5), .inl (cy 0, 5376, .inl mpast)), ((A 6), .inl (cy 0, 6, .inl mreport)), ((A 7), .inl (cy 0, 5, .inl mpart)), ((A 8), .inl (cy 0, 5, .inl mcome)), ((A 9), .inl (cy 0, 60, .inl morder)), ((A 10), .inl (cy 0, 80, .inl mtext)), ((A 11), .inl (cy 0, 200, .inl mtold)), ((A 12), .inl (cy 0, 672, .inl mahead))] (fun _ => [((A 0), .inr (10, [.ref (A 1), .ref (A 2), .ref (A 3), .ref (A 4), .int mhasKept, .ref (A 5), .int mpasts, .ref (A 6), .int mreports, .int mthrown, .ref (A 7), .ref (A 8), .ref (A 9), .int mordering, .int mdetail, .ref (A 10), .int mlength, .int mspot, .int mnumber, .ref (A 11), .int mtolds, .ref (A 12)])), ((A 1), .inl (cy 0, 672, .inl mg)), ((A 2), .inl (cy 0, 672, .inl mkept)), ((A 3), .inl (cy 0, 672, .inl mspare)), ((A 4), .inl (cy 0, 672, .inl mtrial)), ((A 5), .inl (cy 0, 5376, .inl mpast)), ((A 6), .inl (cy 0, 6, .inl mreport)), ((A 7), .inl (cy 0, 5, .inl mpart)), ((A 8), .inl (cy 0, 5, .inl mcome)), ((A 9), .inl (cy 0, 60, .inl morder)), ((A 10), .inl (cy 0, 80, .inl mtext)), ((A 11), .inl (cy 0, 200, .inl mtold)), ((A 12), .inl (cy 0, 672, .inl mahead))]) post := by
  refine Ctr.of (cc := cX9_againstRun) (maxL := 2) (ret := (some .int)) (lv0 := [(0, .ref (A 0)), (1, .int p0)]) (by decide) rfl (Nat.le_of_ble_eq_true rfl) rfl ?_
  intro X El hR Er Enm ED E En K
  have K : Cx X cX9_againstRun RX9 wsX9_againstRun (xTys cy) sd := K
  have E : X.2.2.2.2.2.2.2.2.2.2.1 = xMQ X (fun u : Int32 => some (.int u)) post (fun _ => [((A 0), .inr (10, [.ref (A 1), .ref (A 2), .ref (A 3), .ref (A 4), .int mhasKept, .ref (A 5), .int mpasts, .ref (A 6), .int mreports, .int mthrown, .ref (A 7), .ref (A 8), .ref (A 9), .int mordering, .int mdetail, .ref (A 10), .int mlength, .int mspot, .int mnumber, .ref (A 11), .int mtolds, .ref (A 12)])), ((A 1), .inl (cy 0, 672, .inl mg)), ((A 2), .inl (cy 0, 672, .inl mkept)), ((A 3), .inl (cy 0, 672, .inl mspare)), ((A 4), .inl (cy 0, 672, .inl mtrial)), ((A 5), .inl (cy 0, 5376, .inl mpast)), ((A 6), .inl (cy 0, 6, .inl mreport)), ((A 7), .inl (cy 0, 5, .inl mpart)), ((A 8), .inl (cy 0, 5, .inl mcome)), ((A 9), .inl (cy 0, 60, .inl morder)), ((A 10), .inl (cy 0, 80, .inl mtext)), ((A 11), .inl (cy 0, 200, .inl mtold)), ((A 12), .inl (cy 0, 672, .inl mahead))]) 0 0 := E
  unfold wp_X9_againstRun at hw
  refine g_iload_n K 1 dX9_againstRun_0 rfl ?_
  refine g_iconst (v := 1) K dX9_againstRun_1 rfl ?_
  refine g_sipush (v := 200) K dX9_againstRun_2 rfl ?_
  refine g_callSr (st' := fun u1 => [.int (bI u1)]) K hR [.int p0, .int 1, .int 200] [] (c_X9_in X.2.1 (gxD X) cy sd p0 1 200 hw) gX9_againstRun_X9_in rfl yok_X9_in rfl (by decide) rfl (Nat.le_of_ble_eq_true rfl) dX9_againstRun_5 [] rfl (by decide) (fun _ => rfl) ⟨rfl, rfl⟩ (fun u1 hw => ?_)
  refine g_ifb_ne (tgt := 15) K dX9_againstRun_8 (by decide) (fun hc => ?_) (fun hc => ?_)
  · replace hw := hw.1 hc
    refine g_aload_n K 0 dX9_againstRun_15 rfl ?_
    refine g_get K (C := RX9) (T := TX9) (N := 22) 0 0 in_X9_againstRun_X9 (by decide +kernel) rfl rfl (by decide) rfl dX9_againstRun_16 ?_
    refine g_iconst (v := 0) K dX9_againstRun_19 rfl ?_
    refine g_iald K 1 0 rfl rfl hw.1 dX9_againstRun_20 ?_
    replace hw := hw.2
    refine g_if_ne (tgt := 28) K dX9_againstRun_21 (by decide) (fun hc => ?_) (fun hc => ?_)
    · replace hw := hw.2 hc
      refine g_iconst (v := 0) K dX9_againstRun_28 rfl ?_
      exact g_zret K E Er 0 hw rfl rfl rfl (Nat.le_refl _) (Nat.le_refl _) dX9_againstRun_29
    · replace hw := hw.1 hc
      refine g_iconst (v := 2) K dX9_againstRun_24 rfl ?_
      refine g_goto (tgt := 29) K dX9_againstRun_25 (by decide) ?_
      exact g_zret K E Er 2 hw rfl rfl rfl (Nat.le_refl _) (Nat.le_refl _) dX9_againstRun_29
  · replace hw := hw.2 hc
    refine g_iconst (v := 1) K dX9_againstRun_11 rfl ?_
    refine g_goto (tgt := 29) K dX9_againstRun_12 (by decide) ?_
    exact g_zret K E Er 1 hw rfl rfl rfl (Nat.le_refl _) (Nat.le_refl _) dX9_againstRun_29

def wp_X9_runs_L2 (p0 : Int32) (k2_29 : Int32 → XRow → XRow → XRow → XRow → Prop) : Nat → Int32 → XRow → XRow → XRow → XRow → Prop
  | 0, _, _, _, _, _ => False
  | fu + 1, v1, v2, v3, v4, v5 => (p0 ≤ v1 → (k2_29 v1 v2 v3 v4 v5)) ∧ (¬ p0 ≤ v1 → (wp_X9_sum v2 11 (fun u6 : Int32 => (u6 ≤ 0 → (k2_29 v1 v2 v3 v4 v5)) ∧ (¬ u6 ≤ 0 → (wp_X9_goesOn v2 v3 v4 v5 (fun u7 : Bool × XRow × XRow × XRow × XRow => (u7.1 = true → (∀ x8 : Int32, x8 = v1 + 1 → (wp_X9_runs_L2 p0 k2_29 fu x8 u7.2.1 u7.2.2.1 u7.2.2.2.1 u7.2.2.2.2))) ∧ (u7.1 = false → (k2_29 v1 u7.2.1 u7.2.2.1 u7.2.2.2.1 u7.2.2.2.2))))))))
def wp_X9_runs (mg : XRow) (mtrial : XRow) (mpart : XRow) (mcome : XRow) (p0 : Int32) (post : (Int32 × XRow × XRow × XRow × XRow) → Prop) : Prop := ∃ fl, wp_X9_runs_L2 p0 (fun (v9 : Int32) (v10 : XRow) (v11 : XRow) (v12 : XRow) (v13 : XRow) => post (v9, v10, v11, v12, v13)) fl 0 mg mtrial mpart mcome
set_option maxRecDepth 100000 in
set_option maxHeartbeats 4000000 in
theorem c_X9_runs (l : Launch) (D : va_G) (cy : Nat → ClassId) (sd : xSd) (A : Nat → Nat) (mg : XRow) (mkept : XRow) (mspare : XRow) (mtrial : XRow) (mpast : XRow) (mreport : XRow) (mpart : XRow) (mcome : XRow) (morder : XRow) (mtext : XRow) (mtold : XRow) (mahead : XRow) (mhasKept : Int32) (mpasts : Int32) (mreports : Int32) (mthrown : Int32) (mordering : Int32) (mdetail : Int32) (mlength : Int32) (mspot : Int32) (mnumber : Int32) (mtolds : Int32) (p0 : Int32) {post : (Int32 × XRow × XRow × XRow × XRow) → Prop} (hw : wp_X9_runs mg mtrial mpart mcome p0 post) : Ctr l D (xTys cy) sd yX9_runs wsX9_runs ({ frames := 5, cells := 0, slots := 0, locals := 123 } : Room) [.ref (A 0), .int p0] (fun u : Int32 × XRow × XRow × XRow × XRow => some (.int u.1)) [((A 0), .inr (10, [.ref (A 1), .ref (A 2), .ref (A 3), .ref (A 4), .int mhasKept, .ref (A 5), .int mpasts, .ref (A 6), .int mreports, .int mthrown, .ref (A 7), .ref (A 8), .ref (A 9), .int mordering, .int mdetail, .ref (A 10), .int mlength, .int mspot, .int mnumber, .ref (A 11), .int mtolds, .ref (A 12)])), ((A 1), .inl (cy 0, 672, .inl mg)), ((A 2), .inl (cy 0, 672, .inl mkept)), ((A 3), .inl (cy 0, 672, .inl mspare)), ((A 4), .inl (cy 0, 672, .inl mtrial)), ((A 5), .inl (cy 0, 5376, .inl mpast)), ((A 6), .inl (cy 0, 6, .inl mreport)), ((A 7), .inl (cy 0, 5, .inl mpart)), ((A 8), .inl (cy 0, 5, .inl mcome)), ((A 9), .inl (cy 0, 60, .inl morder)), ((A 10), .inl (cy 0, 80, .inl mtext)), ((A 11), .inl (cy 0, 200, .inl mtold)), ((A 12), .inl (cy 0, 672, .inl mahead))] (fun u => [((A 0), .inr (10, [.ref (A 1), .ref (A 2), .ref (A 3), .ref (A 4), .int mhasKept, .ref (A 5), .int mpasts, .ref (A 6), .int mreports, .int mthrown, .ref (A 7), .ref (A 8), .ref (A 9), .int mordering, .int mdetail, .ref (A 10), .int mlength, .int mspot, .int mnumber, .ref (A 11), .int mtolds, .ref (A 12)])), ((A 1), .inl (cy 0, 672, .inl u.2.1)), ((A 2), .inl (cy 0, 672, .inl mkept)), ((A 3), .inl (cy 0, 672, .inl mspare)), ((A 4), .inl (cy 0, 672, .inl u.2.2.1)), ((A 5), .inl (cy 0, 5376, .inl mpast)), ((A 6), .inl (cy 0, 6, .inl mreport)), ((A 7), .inl (cy 0, 5, .inl u.2.2.2.1)), ((A 8), .inl (cy 0, 5, .inl u.2.2.2.2)), ((A 9), .inl (cy 0, 60, .inl morder)), ((A 10), .inl (cy 0, 80, .inl mtext)), ((A 11), .inl (cy 0, 200, .inl mtold)), ((A 12), .inl (cy 0, 672, .inl mahead))]) post := by
  refine Ctr.of (cc := cX9_runs) (maxL := 3) (ret := (some .int)) (lv0 := [(0, .ref (A 0)), (1, .int p0)]) (by decide) rfl (Nat.le_of_ble_eq_true rfl) rfl ?_
  intro X El hR Er Enm ED E En K
  have K : Cx X cX9_runs RX9 wsX9_runs (xTys cy) sd := K
  have E : X.2.2.2.2.2.2.2.2.2.2.1 = xMQ X (fun u : Int32 × XRow × XRow × XRow × XRow => some (.int u.1)) post (fun u => [((A 0), .inr (10, [.ref (A 1), .ref (A 2), .ref (A 3), .ref (A 4), .int mhasKept, .ref (A 5), .int mpasts, .ref (A 6), .int mreports, .int mthrown, .ref (A 7), .ref (A 8), .ref (A 9), .int mordering, .int mdetail, .ref (A 10), .int mlength, .int mspot, .int mnumber, .ref (A 11), .int mtolds, .ref (A 12)])), ((A 1), .inl (cy 0, 672, .inl u.2.1)), ((A 2), .inl (cy 0, 672, .inl mkept)), ((A 3), .inl (cy 0, 672, .inl mspare)), ((A 4), .inl (cy 0, 672, .inl u.2.2.1)), ((A 5), .inl (cy 0, 5376, .inl mpast)), ((A 6), .inl (cy 0, 6, .inl mreport)), ((A 7), .inl (cy 0, 5, .inl u.2.2.2.1)), ((A 8), .inl (cy 0, 5, .inl u.2.2.2.2)), ((A 9), .inl (cy 0, 60, .inl morder)), ((A 10), .inl (cy 0, 80, .inl mtext)), ((A 11), .inl (cy 0, 200, .inl mtold)), ((A 12), .inl (cy 0, 672, .inl mahead))]) 0 0 := E
  unfold wp_X9_runs at hw
  refine g_iconst (v := 0) K dX9_runs_0 rfl ?_
  refine g_istore_n (lv' := [(2, .int 0), (0, .ref (A 0)), (1, .int p0)]) K dX9_runs_1 rfl (by rw [En]; decide) rfl ?_
  obtain ⟨fl, hw⟩ := hw
  have key : ∀ (k2_29 : Int32 → XRow → XRow → XRow → XRow → Prop), (∀ (v1 : Int32) (v2 : XRow) (v3 : XRow) (v4 : XRow) (v5 : XRow), k2_29 v1 v2 v3 v4 v5 → Gx X 0 0 [((A 0), .inr (10, [.ref (A 1), .ref (A 2), .ref (A 3), .ref (A 4), .int mhasKept, .ref (A 5), .int mpasts, .ref (A 6), .int mreports, .int mthrown, .ref (A 7), .ref (A 8), .ref (A 9), .int mordering, .int mdetail, .ref (A 10), .int mlength, .int mspot, .int mnumber, .ref (A 11), .int mtolds, .ref (A 12)])), ((A 1), .inl (cy 0, 672, .inl v2)), ((A 2), .inl (cy 0, 672, .inl mkept)), ((A 3), .inl (cy 0, 672, .inl mspare)), ((A 4), .inl (cy 0, 672, .inl v3)), ((A 5), .inl (cy 0, 5376, .inl mpast)), ((A 6), .inl (cy 0, 6, .inl mreport)), ((A 7), .inl (cy 0, 5, .inl v4)), ((A 8), .inl (cy 0, 5, .inl v5)), ((A 9), .inl (cy 0, 60, .inl morder)), ((A 10), .inl (cy 0, 80, .inl mtext)), ((A 11), .inl (cy 0, 200, .inl mtold)), ((A 12), .inl (cy 0, 672, .inl mahead))] [(2, .int v1), (0, .ref (A 0)), (1, .int p0)] 29 []) → ∀ (n : Nat) (v1 : Int32) (v2 : XRow) (v3 : XRow) (v4 : XRow) (v5 : XRow), wp_X9_runs_L2 p0 k2_29 n v1 v2 v3 v4 v5 → Gx X 0 0 [((A 0), .inr (10, [.ref (A 1), .ref (A 2), .ref (A 3), .ref (A 4), .int mhasKept, .ref (A 5), .int mpasts, .ref (A 6), .int mreports, .int mthrown, .ref (A 7), .ref (A 8), .ref (A 9), .int mordering, .int mdetail, .ref (A 10), .int mlength, .int mspot, .int mnumber, .ref (A 11), .int mtolds, .ref (A 12)])), ((A 1), .inl (cy 0, 672, .inl v2)), ((A 2), .inl (cy 0, 672, .inl mkept)), ((A 3), .inl (cy 0, 672, .inl mspare)), ((A 4), .inl (cy 0, 672, .inl v3)), ((A 5), .inl (cy 0, 5376, .inl mpast)), ((A 6), .inl (cy 0, 6, .inl mreport)), ((A 7), .inl (cy 0, 5, .inl v4)), ((A 8), .inl (cy 0, 5, .inl v5)), ((A 9), .inl (cy 0, 60, .inl morder)), ((A 10), .inl (cy 0, 80, .inl mtext)), ((A 11), .inl (cy 0, 200, .inl mtold)), ((A 12), .inl (cy 0, 672, .inl mahead))] [(2, .int v1), (0, .ref (A 0)), (1, .int p0)] 2 [] := by
    intro k2_29 hx29 n
    induction n with
    | zero => intro v1 v2 v3 v4 v5 hw; exact hw.elim
    | succ n ih =>
      intro v1 v2 v3 v4 v5 hw
      refine g_iload_n K 0 dX9_runs_2 rfl ?_
      refine g_iload_n K 2 dX9_runs_3 rfl ?_
      refine g_icmp_ge (tgt := 29) K dX9_runs_4 (by decide) (fun hc => ?_) (fun hc => ?_)
      · replace hw := hw.1 hc
        exact hx29 _ _ _ _ _ hw
      · replace hw := hw.2 hc
        refine g_aload_n K 1 dX9_runs_7 rfl ?_
        refine g_bipush (v := 11) K dX9_runs_8 rfl ?_
        refine g_callVr (st' := fun u6 => [.int u6]) K hR [.int 11] [] 0 rfl rfl (c_X9_sum X.2.1 (gxD X) cy sd A v2 mkept mspare v3 mpast mreport v4 v5 morder mtext mtold mahead mhasKept mpasts mreports mthrown mordering mdetail mlength mspot mnumber mtolds 11 hw) gX9_runs_X9_sum rfl yok_X9_sum rfl rfl (by decide) rfl (Nat.le_of_ble_eq_true rfl) dX9_runs_10 [0, 1, 2, 3, 4, 5, 6, 7, 8, 9, 10, 11, 12] rfl (by decide) (fun _ => rfl) ⟨rfl, rfl⟩ (fun u6 hw => ?_)
        refine g_if_le (tgt := 29) K dX9_runs_13 (by decide) (fun hc => ?_) (fun hc => ?_)
        · replace hw := hw.1 hc
          exact hx29 _ _ _ _ _ hw
        · replace hw := hw.2 hc
          refine g_aload_n K 1 dX9_runs_16 rfl ?_
          refine g_callV (st' := fun u7 => [.int (bI u7.1)]) (ws' := fun u7 => [((A 0), .inr (10, [.ref (A 1), .ref (A 2), .ref (A 3), .ref (A 4), .int mhasKept, .ref (A 5), .int mpasts, .ref (A 6), .int mreports, .int mthrown, .ref (A 7), .ref (A 8), .ref (A 9), .int mordering, .int mdetail, .ref (A 10), .int mlength, .int mspot, .int mnumber, .ref (A 11), .int mtolds, .ref (A 12)])), ((A 1), .inl (cy 0, 672, .inl u7.2.1)), ((A 2), .inl (cy 0, 672, .inl mkept)), ((A 3), .inl (cy 0, 672, .inl mspare)), ((A 4), .inl (cy 0, 672, .inl u7.2.2.1)), ((A 5), .inl (cy 0, 5376, .inl mpast)), ((A 6), .inl (cy 0, 6, .inl mreport)), ((A 7), .inl (cy 0, 5, .inl u7.2.2.2.1)), ((A 8), .inl (cy 0, 5, .inl u7.2.2.2.2)), ((A 9), .inl (cy 0, 60, .inl morder)), ((A 10), .inl (cy 0, 80, .inl mtext)), ((A 11), .inl (cy 0, 200, .inl mtold)), ((A 12), .inl (cy 0, 672, .inl mahead))]) K hR [] [] 0 rfl rfl (c_X9_goesOn X.2.1 (gxD X) cy sd A v2 mkept mspare v3 mpast mreport v4 v5 morder mtext mtold mahead mhasKept mpasts mreports mthrown mordering mdetail mlength mspot mnumber mtolds hw) gX9_runs_X9_goesOn rfl yok_X9_goesOn rfl rfl (by decide) rfl (Nat.le_of_ble_eq_true rfl) dX9_runs_17 [0, 1, 2, 3, 4, 5, 6, 7, 8, 9, 10, 11, 12] rfl (by decide) (fun _ => rfl) (fun _ => rfl) (fun _ => rfl) ⟨rfl, rfl⟩ (fun u7 hw => ?_)
          refine g_ifb_eq (tgt := 29) K dX9_runs_20 (by decide) (fun hc => ?_) (fun hc => ?_)
          · replace hw := hw.2 hc
            exact hx29 _ _ _ _ _ hw
          · replace hw := hw.1 hc
            obtain ⟨x8, ex8⟩ : ∃ z : Int32, z = v1 + 1 := ⟨_, rfl⟩
            replace hw := hw x8 ex8
            refine g_iinc (v := x8) (lv' := [(2, .int x8), (0, .ref (A 0)), (1, .int p0)]) K 0 dX9_runs_23 rfl (by rw [ex8]; rfl) (by rw [En]; decide) rfl ?_
            refine g_goto (tgt := 2) K dX9_runs_26 (by decide) ?_
            exact ih _ _ _ _ _ hw
  refine key _ (fun v9 v10 v11 v12 v13 hw => ?_) fl _ _ _ _ _ hw
  refine g_iload_n K 0 dX9_runs_29 rfl ?_
  exact g_zret K E Er (v9, v10, v11, v12, v13) hw rfl rfl rfl (Nat.le_refl _) (Nat.le_refl _) dX9_runs_30

def wp_X9_run (mg : XRow) (mtrial : XRow) (mpast : XRow) (mpart : XRow) (mcome : XRow) (mpasts : Int32) (p0 : Int32) (post : (Int32 × Int32 × Int32 × XRow × XRow × XRow × XRow × XRow) → Prop) : Prop := wp_X9_againstRun mg p0 (fun u1 : Int32 => (u1 ≤ 0 → (wp_X9_changes_o1 mg mpast mpasts (fun u2 : Int32 × XRow => wp_X9_runs mg mtrial mpart mcome p0 (fun u3 : Int32 × XRow × XRow × XRow × XRow => post (u3.1, u2.1, u1, u3.2.1, u3.2.2.1, u2.2, u3.2.2.2.1, u3.2.2.2.2))))) ∧ (¬ u1 ≤ 0 → (post (0, mpasts, u1, mg, mtrial, mpast, mpart, mcome))))
theorem in_X9_run_X9 : ∀ w ∈ u_ws RX9 TX9 22, w ∈ wsX9_run := by decide +kernel
set_option maxRecDepth 100000 in
set_option maxHeartbeats 4000000 in
theorem c_X9_run (l : Launch) (D : va_G) (cy : Nat → ClassId) (sd : xSd) (A : Nat → Nat) (mg : XRow) (mkept : XRow) (mspare : XRow) (mtrial : XRow) (mpast : XRow) (mreport : XRow) (mpart : XRow) (mcome : XRow) (morder : XRow) (mtext : XRow) (mtold : XRow) (mahead : XRow) (mhasKept : Int32) (mpasts : Int32) (mreports : Int32) (mthrown : Int32) (mordering : Int32) (mdetail : Int32) (mlength : Int32) (mspot : Int32) (mnumber : Int32) (mtolds : Int32) (p0 : Int32) {post : (Int32 × Int32 × Int32 × XRow × XRow × XRow × XRow × XRow) → Prop} (hw : wp_X9_run mg mtrial mpast mpart mcome mpasts p0 post) : Ctr l D (xTys cy) sd yX9_run wsX9_run ({ frames := 6, cells := 0, slots := 0, locals := 145 } : Room) [.ref (A 0), .int p0] (fun u : Int32 × Int32 × Int32 × XRow × XRow × XRow × XRow × XRow => some (.int u.1)) [((A 0), .inr (10, [.ref (A 1), .ref (A 2), .ref (A 3), .ref (A 4), .int mhasKept, .ref (A 5), .int mpasts, .ref (A 6), .int mreports, .int mthrown, .ref (A 7), .ref (A 8), .ref (A 9), .int mordering, .int mdetail, .ref (A 10), .int mlength, .int mspot, .int mnumber, .ref (A 11), .int mtolds, .ref (A 12)])), ((A 1), .inl (cy 0, 672, .inl mg)), ((A 2), .inl (cy 0, 672, .inl mkept)), ((A 3), .inl (cy 0, 672, .inl mspare)), ((A 4), .inl (cy 0, 672, .inl mtrial)), ((A 5), .inl (cy 0, 5376, .inl mpast)), ((A 6), .inl (cy 0, 6, .inl mreport)), ((A 7), .inl (cy 0, 5, .inl mpart)), ((A 8), .inl (cy 0, 5, .inl mcome)), ((A 9), .inl (cy 0, 60, .inl morder)), ((A 10), .inl (cy 0, 80, .inl mtext)), ((A 11), .inl (cy 0, 200, .inl mtold)), ((A 12), .inl (cy 0, 672, .inl mahead))] (fun u => [((A 0), .inr (10, [.ref (A 1), .ref (A 2), .ref (A 3), .ref (A 4), .int mhasKept, .ref (A 5), .int u.2.1, .ref (A 6), .int mreports, .int u.2.2.1, .ref (A 7), .ref (A 8), .ref (A 9), .int mordering, .int mdetail, .ref (A 10), .int mlength, .int mspot, .int mnumber, .ref (A 11), .int mtolds, .ref (A 12)])), ((A 1), .inl (cy 0, 672, .inl u.2.2.2.1)), ((A 2), .inl (cy 0, 672, .inl mkept)), ((A 3), .inl (cy 0, 672, .inl mspare)), ((A 4), .inl (cy 0, 672, .inl u.2.2.2.2.1)), ((A 5), .inl (cy 0, 5376, .inl u.2.2.2.2.2.1)), ((A 6), .inl (cy 0, 6, .inl mreport)), ((A 7), .inl (cy 0, 5, .inl u.2.2.2.2.2.2.1)), ((A 8), .inl (cy 0, 5, .inl u.2.2.2.2.2.2.2)), ((A 9), .inl (cy 0, 60, .inl morder)), ((A 10), .inl (cy 0, 80, .inl mtext)), ((A 11), .inl (cy 0, 200, .inl mtold)), ((A 12), .inl (cy 0, 672, .inl mahead))]) post := by
  refine Ctr.of (cc := cX9_run) (maxL := 2) (ret := (some .int)) (lv0 := [(0, .ref (A 0)), (1, .int p0)]) (by decide) rfl (Nat.le_of_ble_eq_true rfl) rfl ?_
  intro X El hR Er Enm ED E En K
  have K : Cx X cX9_run RX9 wsX9_run (xTys cy) sd := K
  have E : X.2.2.2.2.2.2.2.2.2.2.1 = xMQ X (fun u : Int32 × Int32 × Int32 × XRow × XRow × XRow × XRow × XRow => some (.int u.1)) post (fun u => [((A 0), .inr (10, [.ref (A 1), .ref (A 2), .ref (A 3), .ref (A 4), .int mhasKept, .ref (A 5), .int u.2.1, .ref (A 6), .int mreports, .int u.2.2.1, .ref (A 7), .ref (A 8), .ref (A 9), .int mordering, .int mdetail, .ref (A 10), .int mlength, .int mspot, .int mnumber, .ref (A 11), .int mtolds, .ref (A 12)])), ((A 1), .inl (cy 0, 672, .inl u.2.2.2.1)), ((A 2), .inl (cy 0, 672, .inl mkept)), ((A 3), .inl (cy 0, 672, .inl mspare)), ((A 4), .inl (cy 0, 672, .inl u.2.2.2.2.1)), ((A 5), .inl (cy 0, 5376, .inl u.2.2.2.2.2.1)), ((A 6), .inl (cy 0, 6, .inl mreport)), ((A 7), .inl (cy 0, 5, .inl u.2.2.2.2.2.2.1)), ((A 8), .inl (cy 0, 5, .inl u.2.2.2.2.2.2.2)), ((A 9), .inl (cy 0, 60, .inl morder)), ((A 10), .inl (cy 0, 80, .inl mtext)), ((A 11), .inl (cy 0, 200, .inl mtold)), ((A 12), .inl (cy 0, 672, .inl mahead))]) 0 0 := E
  unfold wp_X9_run at hw
  refine g_aload_n K 0 dX9_run_0 rfl ?_
  refine g_aload_n K 0 dX9_run_1 rfl ?_
  refine g_iload_n K 1 dX9_run_2 rfl ?_
  refine g_callVr (st' := fun u1 => [.int u1, .ref (A 0)]) K hR [.int p0] [.ref (A 0)] 0 rfl rfl (c_X9_againstRun X.2.1 (gxD X) cy sd A mg mkept mspare mtrial mpast mreport mpart mcome morder mtext mtold mahead mhasKept mpasts mreports mthrown mordering mdetail mlength mspot mnumber mtolds p0 hw) gX9_run_X9_againstRun rfl yok_X9_againstRun rfl rfl (by decide) rfl (Nat.le_of_ble_eq_true rfl) dX9_run_3 [0, 1, 2, 3, 4, 5, 6, 7, 8, 9, 10, 11, 12] rfl (by decide) (fun _ => rfl) ⟨rfl, rfl⟩ (fun u1 hw => ?_)
  refine g_put (ty := .int) (ws' := [((A 0), .inr (10, [.ref (A 1), .ref (A 2), .ref (A 3), .ref (A 4), .int mhasKept, .ref (A 5), .int mpasts, .ref (A 6), .int mreports, .int u1, .ref (A 7), .ref (A 8), .ref (A 9), .int mordering, .int mdetail, .ref (A 10), .int mlength, .int mspot, .int mnumber, .ref (A 11), .int mtolds, .ref (A 12)])), ((A 1), .inl (cy 0, 672, .inl mg)), ((A 2), .inl (cy 0, 672, .inl mkept)), ((A 3), .inl (cy 0, 672, .inl mspare)), ((A 4), .inl (cy 0, 672, .inl mtrial)), ((A 5), .inl (cy 0, 5376, .inl mpast)), ((A 6), .inl (cy 0, 6, .inl mreport)), ((A 7), .inl (cy 0, 5, .inl mpart)), ((A 8), .inl (cy 0, 5, .inl mcome)), ((A 9), .inl (cy 0, 60, .inl morder)), ((A 10), .inl (cy 0, 80, .inl mtext)), ((A 11), .inl (cy 0, 200, .inl mtold)), ((A 12), .inl (cy 0, 672, .inl mahead))]) K (C := RX9) (T := TX9) (N := 22) 0 9 in_X9_run_X9 tyX9 tyX9_ok nmX9 (by decide +kernel) rfl rfl (by decide) rfl (by decide +kernel) rfl rfl (Nat.le_of_ble_eq_true rfl) rfl dX9_run_6 ?_
  refine g_aload_n K 0 dX9_run_9 rfl ?_
  refine g_get K (C := RX9) (T := TX9) (N := 22) 0 9 in_X9_run_X9 (by decide +kernel) rfl rfl (by decide) rfl dX9_run_10 ?_
  refine g_if_le (tgt := 18) K dX9_run_13 (by decide) (fun hc => ?_) (fun hc => ?_)
  · replace hw := hw.1 hc
    refine g_aload_n K 0 dX9_run_18 rfl ?_
    refine g_aload_n K 0 dX9_run_19 rfl ?_
    refine g_get K (C := RX9) (T := TX9) (N := 22) 0 0 in_X9_run_X9 (by decide +kernel) rfl rfl (by decide) rfl dX9_run_20 ?_
    refine g_callV (st' := fun u2 => []) (ws' := fun u2 => [((A 0), .inr (10, [.ref (A 1), .ref (A 2), .ref (A 3), .ref (A 4), .int mhasKept, .ref (A 5), .int u2.1, .ref (A 6), .int mreports, .int u1, .ref (A 7), .ref (A 8), .ref (A 9), .int mordering, .int mdetail, .ref (A 10), .int mlength, .int mspot, .int mnumber, .ref (A 11), .int mtolds, .ref (A 12)])), ((A 1), .inl (cy 0, 672, .inl mg)), ((A 2), .inl (cy 0, 672, .inl mkept)), ((A 3), .inl (cy 0, 672, .inl mspare)), ((A 4), .inl (cy 0, 672, .inl mtrial)), ((A 5), .inl (cy 0, 5376, .inl u2.2)), ((A 6), .inl (cy 0, 6, .inl mreport)), ((A 7), .inl (cy 0, 5, .inl mpart)), ((A 8), .inl (cy 0, 5, .inl mcome)), ((A 9), .inl (cy 0, 60, .inl morder)), ((A 10), .inl (cy 0, 80, .inl mtext)), ((A 11), .inl (cy 0, 200, .inl mtold)), ((A 12), .inl (cy 0, 672, .inl mahead))]) K hR [.ref (A 1)] [] 0 rfl rfl (c_X9_changes_o1 X.2.1 (gxD X) cy sd A mg mkept mspare mtrial mpast mreport mpart mcome morder mtext mtold mahead mhasKept mpasts mreports u1 mordering mdetail mlength mspot mnumber mtolds hw) gX9_run_X9_changes rfl yok_X9_changes rfl rfl (by decide) rfl (Nat.le_of_ble_eq_true rfl) dX9_run_23 [0, 1, 2, 3, 4, 5, 6, 7, 8, 9, 10, 11, 12] rfl (by decide) (fun _ => rfl) (fun _ => rfl) (fun _ => rfl) ⟨rfl, rfl⟩ (fun u2 hw => ?_)
    refine g_aload_n K 0 dX9_run_26 rfl ?_
    refine g_iload_n K 1 dX9_run_27 rfl ?_
    refine g_callV (st' := fun u3 => [.int u3.1]) (ws' := fun u3 => [((A 0), .inr (10, [.ref (A 1), .ref (A 2), .ref (A 3), .ref (A 4), .int mhasKept, .ref (A 5), .int u2.1, .ref (A 6), .int mreports, .int u1, .ref (A 7), .ref (A 8), .ref (A 9), .int mordering, .int mdetail, .ref (A 10), .int mlength, .int mspot, .int mnumber, .ref (A 11), .int mtolds, .ref (A 12)])), ((A 1), .inl (cy 0, 672, .inl u3.2.1)), ((A 2), .inl (cy 0, 672, .inl mkept)), ((A 3), .inl (cy 0, 672, .inl mspare)), ((A 4), .inl (cy 0, 672, .inl u3.2.2.1)), ((A 5), .inl (cy 0, 5376, .inl u2.2)), ((A 6), .inl (cy 0, 6, .inl mreport)), ((A 7), .inl (cy 0, 5, .inl u3.2.2.2.1)), ((A 8), .inl (cy 0, 5, .inl u3.2.2.2.2)), ((A 9), .inl (cy 0, 60, .inl morder)), ((A 10), .inl (cy 0, 80, .inl mtext)), ((A 11), .inl (cy 0, 200, .inl mtold)), ((A 12), .inl (cy 0, 672, .inl mahead))]) K hR [.int p0] [] 0 rfl rfl (c_X9_runs X.2.1 (gxD X) cy sd A mg mkept mspare mtrial u2.2 mreport mpart mcome morder mtext mtold mahead mhasKept u2.1 mreports u1 mordering mdetail mlength mspot mnumber mtolds p0 hw) gX9_run_X9_runs rfl yok_X9_runs rfl rfl (by decide) rfl (Nat.le_of_ble_eq_true rfl) dX9_run_28 [0, 1, 2, 3, 4, 5, 6, 7, 8, 9, 10, 11, 12] rfl (by decide) (fun _ => rfl) (fun _ => rfl) (fun _ => rfl) ⟨rfl, rfl⟩ (fun u3 hw => ?_)
    exact g_zret K E Er (u3.1, u2.1, u1, u3.2.1, u3.2.2.1, u2.2, u3.2.2.2.1, u3.2.2.2.2) hw rfl rfl rfl (Nat.le_refl _) (Nat.le_refl _) dX9_run_31
  · replace hw := hw.2 hc
    refine g_iconst (v := 0) K dX9_run_16 rfl ?_
    exact g_zret K E Er (0, mpasts, u1, mg, mtrial, mpast, mpart, mcome) hw rfl rfl rfl (Nat.le_refl _) (Nat.le_refl _) dX9_run_17

def wp_X9_isSettled (mg : XRow) (mspare : XRow) (mtrial : XRow) (mpart : XRow) (mcome : XRow) (post : (Bool × Int32 × XRow × XRow × XRow × XRow × XRow) → Prop) : Prop := vp_in 0 672 ∧ (((mg ((0 : Int32).toNatClampNeg)) = 0 → (post (false, 1, mg, mspare, mtrial, mpart, mcome))) ∧ (¬ (mg ((0 : Int32).toNatClampNeg)) = 0 → (wp_X9_copies 672 mg 672 mspare 0 0 (fun u1 : XRow => wp_X9_goesOn mg mtrial mpart mcome (fun u2 : Bool × XRow × XRow × XRow × XRow => (u2.1 = true → (wp_X9_copies 672 u1 672 u2.2.1 0 0 (fun u3 : XRow => post (false, 0, u3, u1, u2.2.2.1, u2.2.2.2.1, u2.2.2.2.2)))) ∧ (u2.1 = false → (wp_X9_copies 672 u1 672 u2.2.1 0 0 (fun u4 : XRow => post (true, 0, u4, u1, u2.2.2.1, u2.2.2.2.1, u2.2.2.2.2)))))))))
theorem in_X9_isSettled_X9 : ∀ w ∈ u_ws RX9 TX9 22, w ∈ wsX9_isSettled := by decide +kernel
set_option maxRecDepth 100000 in
set_option maxHeartbeats 4000000 in
theorem c_X9_isSettled (l : Launch) (D : va_G) (cy : Nat → ClassId) (sd : xSd) (A : Nat → Nat) (mg : XRow) (mkept : XRow) (mspare : XRow) (mtrial : XRow) (mpast : XRow) (mreport : XRow) (mpart : XRow) (mcome : XRow) (morder : XRow) (mtext : XRow) (mtold : XRow) (mahead : XRow) (mhasKept : Int32) (mpasts : Int32) (mreports : Int32) (mthrown : Int32) (mordering : Int32) (mdetail : Int32) (mlength : Int32) (mspot : Int32) (mnumber : Int32) (mtolds : Int32) {post : (Bool × Int32 × XRow × XRow × XRow × XRow × XRow) → Prop} (hw : wp_X9_isSettled mg mspare mtrial mpart mcome post) : Ctr l D (xTys cy) sd yX9_isSettled wsX9_isSettled ({ frames := 5, cells := 0, slots := 0, locals := 123 } : Room) [.ref (A 0)] (fun u : Bool × Int32 × XRow × XRow × XRow × XRow × XRow => some (.int (bI u.1))) [((A 0), .inr (10, [.ref (A 1), .ref (A 2), .ref (A 3), .ref (A 4), .int mhasKept, .ref (A 5), .int mpasts, .ref (A 6), .int mreports, .int mthrown, .ref (A 7), .ref (A 8), .ref (A 9), .int mordering, .int mdetail, .ref (A 10), .int mlength, .int mspot, .int mnumber, .ref (A 11), .int mtolds, .ref (A 12)])), ((A 1), .inl (cy 0, 672, .inl mg)), ((A 2), .inl (cy 0, 672, .inl mkept)), ((A 3), .inl (cy 0, 672, .inl mspare)), ((A 4), .inl (cy 0, 672, .inl mtrial)), ((A 5), .inl (cy 0, 5376, .inl mpast)), ((A 6), .inl (cy 0, 6, .inl mreport)), ((A 7), .inl (cy 0, 5, .inl mpart)), ((A 8), .inl (cy 0, 5, .inl mcome)), ((A 9), .inl (cy 0, 60, .inl morder)), ((A 10), .inl (cy 0, 80, .inl mtext)), ((A 11), .inl (cy 0, 200, .inl mtold)), ((A 12), .inl (cy 0, 672, .inl mahead))] (fun u => [((A 0), .inr (10, [.ref (A 1), .ref (A 2), .ref (A 3), .ref (A 4), .int mhasKept, .ref (A 5), .int mpasts, .ref (A 6), .int mreports, .int u.2.1, .ref (A 7), .ref (A 8), .ref (A 9), .int mordering, .int mdetail, .ref (A 10), .int mlength, .int mspot, .int mnumber, .ref (A 11), .int mtolds, .ref (A 12)])), ((A 1), .inl (cy 0, 672, .inl u.2.2.1)), ((A 2), .inl (cy 0, 672, .inl mkept)), ((A 3), .inl (cy 0, 672, .inl u.2.2.2.1)), ((A 4), .inl (cy 0, 672, .inl u.2.2.2.2.1)), ((A 5), .inl (cy 0, 5376, .inl mpast)), ((A 6), .inl (cy 0, 6, .inl mreport)), ((A 7), .inl (cy 0, 5, .inl u.2.2.2.2.2.1)), ((A 8), .inl (cy 0, 5, .inl u.2.2.2.2.2.2)), ((A 9), .inl (cy 0, 60, .inl morder)), ((A 10), .inl (cy 0, 80, .inl mtext)), ((A 11), .inl (cy 0, 200, .inl mtold)), ((A 12), .inl (cy 0, 672, .inl mahead))]) post := by
  refine Ctr.of (cc := cX9_isSettled) (maxL := 2) (ret := (some .boolean)) (lv0 := [(0, .ref (A 0))]) (by decide) rfl (Nat.le_of_ble_eq_true rfl) rfl ?_
  intro X El hR Er Enm ED E En K
  have K : Cx X cX9_isSettled RX9 wsX9_isSettled (xTys cy) sd := K
  have E : X.2.2.2.2.2.2.2.2.2.2.1 = xMQ X (fun u : Bool × Int32 × XRow × XRow × XRow × XRow × XRow => some (.int (bI u.1))) post (fun u => [((A 0), .inr (10, [.ref (A 1), .ref (A 2), .ref (A 3), .ref (A 4), .int mhasKept, .ref (A 5), .int mpasts, .ref (A 6), .int mreports, .int u.2.1, .ref (A 7), .ref (A 8), .ref (A 9), .int mordering, .int mdetail, .ref (A 10), .int mlength, .int mspot, .int mnumber, .ref (A 11), .int mtolds, .ref (A 12)])), ((A 1), .inl (cy 0, 672, .inl u.2.2.1)), ((A 2), .inl (cy 0, 672, .inl mkept)), ((A 3), .inl (cy 0, 672, .inl u.2.2.2.1)), ((A 4), .inl (cy 0, 672, .inl u.2.2.2.2.1)), ((A 5), .inl (cy 0, 5376, .inl mpast)), ((A 6), .inl (cy 0, 6, .inl mreport)), ((A 7), .inl (cy 0, 5, .inl u.2.2.2.2.2.1)), ((A 8), .inl (cy 0, 5, .inl u.2.2.2.2.2.2)), ((A 9), .inl (cy 0, 60, .inl morder)), ((A 10), .inl (cy 0, 80, .inl mtext)), ((A 11), .inl (cy 0, 200, .inl mtold)), ((A 12), .inl (cy 0, 672, .inl mahead))]) 0 0 := E
  unfold wp_X9_isSettled at hw
  refine g_aload_n K 0 dX9_isSettled_0 rfl ?_
  refine g_aload_n K 0 dX9_isSettled_1 rfl ?_
  refine g_get K (C := RX9) (T := TX9) (N := 22) 0 0 in_X9_isSettled_X9 (by decide +kernel) rfl rfl (by decide) rfl dX9_isSettled_2 ?_
  refine g_iconst (v := 0) K dX9_isSettled_5 rfl ?_
  refine g_iald K 1 0 rfl rfl hw.1 dX9_isSettled_6 ?_
  replace hw := hw.2
  refine g_if_ne (tgt := 14) K dX9_isSettled_7 (by decide) (fun hc => ?_) (fun hc => ?_)
  · replace hw := hw.2 hc
    refine g_iconst (v := 0) K dX9_isSettled_14 rfl ?_
    refine g_put (ty := .int) (ws' := [((A 0), .inr (10, [.ref (A 1), .ref (A 2), .ref (A 3), .ref (A 4), .int mhasKept, .ref (A 5), .int mpasts, .ref (A 6), .int mreports, .int 0, .ref (A 7), .ref (A 8), .ref (A 9), .int mordering, .int mdetail, .ref (A 10), .int mlength, .int mspot, .int mnumber, .ref (A 11), .int mtolds, .ref (A 12)])), ((A 1), .inl (cy 0, 672, .inl mg)), ((A 2), .inl (cy 0, 672, .inl mkept)), ((A 3), .inl (cy 0, 672, .inl mspare)), ((A 4), .inl (cy 0, 672, .inl mtrial)), ((A 5), .inl (cy 0, 5376, .inl mpast)), ((A 6), .inl (cy 0, 6, .inl mreport)), ((A 7), .inl (cy 0, 5, .inl mpart)), ((A 8), .inl (cy 0, 5, .inl mcome)), ((A 9), .inl (cy 0, 60, .inl morder)), ((A 10), .inl (cy 0, 80, .inl mtext)), ((A 11), .inl (cy 0, 200, .inl mtold)), ((A 12), .inl (cy 0, 672, .inl mahead))]) K (C := RX9) (T := TX9) (N := 22) 0 9 in_X9_isSettled_X9 tyX9 tyX9_ok nmX9 (by decide +kernel) rfl rfl (by decide) rfl (by decide +kernel) rfl rfl (Nat.le_of_ble_eq_true rfl) rfl dX9_isSettled_15 ?_
    refine g_aload_n K 0 dX9_isSettled_18 rfl ?_
    refine g_get K (C := RX9) (T := TX9) (N := 22) 0 9 in_X9_isSettled_X9 (by decide +kernel) rfl rfl (by decide) rfl dX9_isSettled_19 ?_
    refine g_if_le (tgt := 27) K dX9_isSettled_22 (by decide) (fun _ => ?_) (fun hc => absurd (by decide) hc)
    refine g_aload_n K 0 dX9_isSettled_27 rfl ?_
    refine g_get K (C := RX9) (T := TX9) (N := 22) 0 0 in_X9_isSettled_X9 (by decide +kernel) rfl rfl (by decide) rfl dX9_isSettled_28 ?_
    refine g_iconst (v := 0) K dX9_isSettled_31 rfl ?_
    refine g_aload_n K 0 dX9_isSettled_32 rfl ?_
    refine g_get K (C := RX9) (T := TX9) (N := 22) 0 2 in_X9_isSettled_X9 (by decide +kernel) rfl rfl (by decide) rfl dX9_isSettled_33 ?_
    refine g_iconst (v := 0) K dX9_isSettled_36 rfl ?_
    refine g_callS (st' := fun u1 => []) (ws' := fun u1 => [((A 0), .inr (10, [.ref (A 1), .ref (A 2), .ref (A 3), .ref (A 4), .int mhasKept, .ref (A 5), .int mpasts, .ref (A 6), .int mreports, .int 0, .ref (A 7), .ref (A 8), .ref (A 9), .int mordering, .int mdetail, .ref (A 10), .int mlength, .int mspot, .int mnumber, .ref (A 11), .int mtolds, .ref (A 12)])), ((A 1), .inl (cy 0, 672, .inl mg)), ((A 2), .inl (cy 0, 672, .inl mkept)), ((A 3), .inl (cy 0, 672, .inl u1)), ((A 4), .inl (cy 0, 672, .inl mtrial)), ((A 5), .inl (cy 0, 5376, .inl mpast)), ((A 6), .inl (cy 0, 6, .inl mreport)), ((A 7), .inl (cy 0, 5, .inl mpart)), ((A 8), .inl (cy 0, 5, .inl mcome)), ((A 9), .inl (cy 0, 60, .inl morder)), ((A 10), .inl (cy 0, 80, .inl mtext)), ((A 11), .inl (cy 0, 200, .inl mtold)), ((A 12), .inl (cy 0, 672, .inl mahead))]) K hR [.ref (A 1), .int 0, .ref (A 3), .int 0] [] (c_X9_copies X.2.1 (gxD X) cy sd (A 1) (A 3) 672 mg 672 mspare 0 0 hw) gX9_isSettled_X9_copies rfl yok_X9_copies rfl (by decide) rfl (Nat.le_of_ble_eq_true rfl) dX9_isSettled_37 [1, 3] rfl (by decide) (fun _ => rfl) (fun _ => rfl) (fun _ => rfl) ⟨rfl, rfl⟩ (fun u1 hw => ?_)
    refine g_aload_n K 0 dX9_isSettled_40 rfl ?_
    refine g_callV (st' := fun u2 => [.int (bI u2.1)]) (ws' := fun u2 => [((A 0), .inr (10, [.ref (A 1), .ref (A 2), .ref (A 3), .ref (A 4), .int mhasKept, .ref (A 5), .int mpasts, .ref (A 6), .int mreports, .int 0, .ref (A 7), .ref (A 8), .ref (A 9), .int mordering, .int mdetail, .ref (A 10), .int mlength, .int mspot, .int mnumber, .ref (A 11), .int mtolds, .ref (A 12)])), ((A 1), .inl (cy 0, 672, .inl u2.2.1)), ((A 2), .inl (cy 0, 672, .inl mkept)), ((A 3), .inl (cy 0, 672, .inl u1)), ((A 4), .inl (cy 0, 672, .inl u2.2.2.1)), ((A 5), .inl (cy 0, 5376, .inl mpast)), ((A 6), .inl (cy 0, 6, .inl mreport)), ((A 7), .inl (cy 0, 5, .inl u2.2.2.2.1)), ((A 8), .inl (cy 0, 5, .inl u2.2.2.2.2)), ((A 9), .inl (cy 0, 60, .inl morder)), ((A 10), .inl (cy 0, 80, .inl mtext)), ((A 11), .inl (cy 0, 200, .inl mtold)), ((A 12), .inl (cy 0, 672, .inl mahead))]) K hR [] [] 0 rfl rfl (c_X9_goesOn X.2.1 (gxD X) cy sd A mg mkept u1 mtrial mpast mreport mpart mcome morder mtext mtold mahead mhasKept mpasts mreports 0 mordering mdetail mlength mspot mnumber mtolds hw) gX9_isSettled_X9_goesOn rfl yok_X9_goesOn rfl rfl (by decide) rfl (Nat.le_of_ble_eq_true rfl) dX9_isSettled_41 [0, 1, 2, 3, 4, 5, 6, 7, 8, 9, 10, 11, 12] rfl (by decide) (fun _ => rfl) (fun _ => rfl) (fun _ => rfl) ⟨rfl, rfl⟩ (fun u2 hw => ?_)
    refine g_ifb_ne (tgt := 51) K dX9_isSettled_44 (by decide) (fun hc => ?_) (fun hc => ?_)
    · replace hw := hw.1 hc
      refine g_iconst (v := 0) K dX9_isSettled_51 rfl ?_
      refine g_istore_n (lv' := [(1, .int 0), (0, .ref (A 0))]) K dX9_isSettled_52 rfl (by rw [En]; decide) rfl ?_
      refine g_aload_n K 1 dX9_isSettled_53 rfl ?_
      refine g_get K (C := RX9) (T := TX9) (N := 22) 0 2 in_X9_isSettled_X9 (by decide +kernel) rfl rfl (by decide) rfl dX9_isSettled_54 ?_
      refine g_iconst (v := 0) K dX9_isSettled_57 rfl ?_
      refine g_aload_n K 1 dX9_isSettled_58 rfl ?_
      refine g_get K (C := RX9) (T := TX9) (N := 22) 0 0 in_X9_isSettled_X9 (by decide +kernel) rfl rfl (by decide) rfl dX9_isSettled_59 ?_
      refine g_iconst (v := 0) K dX9_isSettled_62 rfl ?_
      refine g_callS (st' := fun u3 => []) (ws' := fun u3 => [((A 0), .inr (10, [.ref (A 1), .ref (A 2), .ref (A 3), .ref (A 4), .int mhasKept, .ref (A 5), .int mpasts, .ref (A 6), .int mreports, .int 0, .ref (A 7), .ref (A 8), .ref (A 9), .int mordering, .int mdetail, .ref (A 10), .int mlength, .int mspot, .int mnumber, .ref (A 11), .int mtolds, .ref (A 12)])), ((A 1), .inl (cy 0, 672, .inl u3)), ((A 2), .inl (cy 0, 672, .inl mkept)), ((A 3), .inl (cy 0, 672, .inl u1)), ((A 4), .inl (cy 0, 672, .inl u2.2.2.1)), ((A 5), .inl (cy 0, 5376, .inl mpast)), ((A 6), .inl (cy 0, 6, .inl mreport)), ((A 7), .inl (cy 0, 5, .inl u2.2.2.2.1)), ((A 8), .inl (cy 0, 5, .inl u2.2.2.2.2)), ((A 9), .inl (cy 0, 60, .inl morder)), ((A 10), .inl (cy 0, 80, .inl mtext)), ((A 11), .inl (cy 0, 200, .inl mtold)), ((A 12), .inl (cy 0, 672, .inl mahead))]) K hR [.ref (A 3), .int 0, .ref (A 1), .int 0] [] (c_X9_copies X.2.1 (gxD X) cy sd (A 3) (A 1) 672 u1 672 u2.2.1 0 0 hw) gX9_isSettled_X9_copies rfl yok_X9_copies rfl (by decide) rfl (Nat.le_of_ble_eq_true rfl) dX9_isSettled_63 [3, 1] rfl (by decide) (fun _ => rfl) (fun _ => rfl) (fun _ => rfl) ⟨rfl, rfl⟩ (fun u3 hw => ?_)
      refine g_iload_n K 0 dX9_isSettled_66 rfl ?_
      exact g_zret K E Er (false, 0, u3, u1, u2.2.2.1, u2.2.2.2.1, u2.2.2.2.2) hw rfl rfl rfl (Nat.le_refl _) (Nat.le_refl _) dX9_isSettled_67
    · replace hw := hw.2 hc
      refine g_iconst (v := 1) K dX9_isSettled_47 rfl ?_
      refine g_goto (tgt := 52) K dX9_isSettled_48 (by decide) ?_
      refine g_istore_n (lv' := [(1, .int 1), (0, .ref (A 0))]) K dX9_isSettled_52 rfl (by rw [En]; decide) rfl ?_
      refine g_aload_n K 1 dX9_isSettled_53 rfl ?_
      refine g_get K (C := RX9) (T := TX9) (N := 22) 0 2 in_X9_isSettled_X9 (by decide +kernel) rfl rfl (by decide) rfl dX9_isSettled_54 ?_
      refine g_iconst (v := 0) K dX9_isSettled_57 rfl ?_
      refine g_aload_n K 1 dX9_isSettled_58 rfl ?_
      refine g_get K (C := RX9) (T := TX9) (N := 22) 0 0 in_X9_isSettled_X9 (by decide +kernel) rfl rfl (by decide) rfl dX9_isSettled_59 ?_
      refine g_iconst (v := 0) K dX9_isSettled_62 rfl ?_
      refine g_callS (st' := fun u4 => []) (ws' := fun u4 => [((A 0), .inr (10, [.ref (A 1), .ref (A 2), .ref (A 3), .ref (A 4), .int mhasKept, .ref (A 5), .int mpasts, .ref (A 6), .int mreports, .int 0, .ref (A 7), .ref (A 8), .ref (A 9), .int mordering, .int mdetail, .ref (A 10), .int mlength, .int mspot, .int mnumber, .ref (A 11), .int mtolds, .ref (A 12)])), ((A 1), .inl (cy 0, 672, .inl u4)), ((A 2), .inl (cy 0, 672, .inl mkept)), ((A 3), .inl (cy 0, 672, .inl u1)), ((A 4), .inl (cy 0, 672, .inl u2.2.2.1)), ((A 5), .inl (cy 0, 5376, .inl mpast)), ((A 6), .inl (cy 0, 6, .inl mreport)), ((A 7), .inl (cy 0, 5, .inl u2.2.2.2.1)), ((A 8), .inl (cy 0, 5, .inl u2.2.2.2.2)), ((A 9), .inl (cy 0, 60, .inl morder)), ((A 10), .inl (cy 0, 80, .inl mtext)), ((A 11), .inl (cy 0, 200, .inl mtold)), ((A 12), .inl (cy 0, 672, .inl mahead))]) K hR [.ref (A 3), .int 0, .ref (A 1), .int 0] [] (c_X9_copies X.2.1 (gxD X) cy sd (A 3) (A 1) 672 u1 672 u2.2.1 0 0 hw) gX9_isSettled_X9_copies rfl yok_X9_copies rfl (by decide) rfl (Nat.le_of_ble_eq_true rfl) dX9_isSettled_63 [3, 1] rfl (by decide) (fun _ => rfl) (fun _ => rfl) (fun _ => rfl) ⟨rfl, rfl⟩ (fun u4 hw => ?_)
      refine g_iload_n K 0 dX9_isSettled_66 rfl ?_
      exact g_zret K E Er (true, 0, u4, u1, u2.2.2.1, u2.2.2.2.1, u2.2.2.2.2) hw rfl rfl rfl (Nat.le_refl _) (Nat.le_refl _) dX9_isSettled_67
  · replace hw := hw.1 hc
    refine g_iconst (v := 1) K dX9_isSettled_10 rfl ?_
    refine g_goto (tgt := 15) K dX9_isSettled_11 (by decide) ?_
    refine g_put (ty := .int) (ws' := [((A 0), .inr (10, [.ref (A 1), .ref (A 2), .ref (A 3), .ref (A 4), .int mhasKept, .ref (A 5), .int mpasts, .ref (A 6), .int mreports, .int 1, .ref (A 7), .ref (A 8), .ref (A 9), .int mordering, .int mdetail, .ref (A 10), .int mlength, .int mspot, .int mnumber, .ref (A 11), .int mtolds, .ref (A 12)])), ((A 1), .inl (cy 0, 672, .inl mg)), ((A 2), .inl (cy 0, 672, .inl mkept)), ((A 3), .inl (cy 0, 672, .inl mspare)), ((A 4), .inl (cy 0, 672, .inl mtrial)), ((A 5), .inl (cy 0, 5376, .inl mpast)), ((A 6), .inl (cy 0, 6, .inl mreport)), ((A 7), .inl (cy 0, 5, .inl mpart)), ((A 8), .inl (cy 0, 5, .inl mcome)), ((A 9), .inl (cy 0, 60, .inl morder)), ((A 10), .inl (cy 0, 80, .inl mtext)), ((A 11), .inl (cy 0, 200, .inl mtold)), ((A 12), .inl (cy 0, 672, .inl mahead))]) K (C := RX9) (T := TX9) (N := 22) 0 9 in_X9_isSettled_X9 tyX9 tyX9_ok nmX9 (by decide +kernel) rfl rfl (by decide) rfl (by decide +kernel) rfl rfl (Nat.le_of_ble_eq_true rfl) rfl dX9_isSettled_15 ?_
    refine g_aload_n K 0 dX9_isSettled_18 rfl ?_
    refine g_get K (C := RX9) (T := TX9) (N := 22) 0 9 in_X9_isSettled_X9 (by decide +kernel) rfl rfl (by decide) rfl dX9_isSettled_19 ?_
    refine g_if_le (tgt := 27) K dX9_isSettled_22 (by decide) (fun hc => absurd hc (by decide)) (fun _ => ?_)
    refine g_iconst (v := 0) K dX9_isSettled_25 rfl ?_
    exact g_zret K E Er (false, 1, mg, mspare, mtrial, mpart, mcome) hw rfl rfl rfl (Nat.le_refl _) (Nat.le_refl _) dX9_isSettled_26

def wp_X9_settlesAfter_L42  (k42_62 : Int32 → XRow → XRow → XRow → XRow → Prop) : Nat → Int32 → XRow → XRow → XRow → XRow → Prop
  | 0, _, _, _, _, _ => False
  | fu + 1, v2, v3, v4, v5, v6 => (300 < v2 → (k42_62 v2 v3 v4 v5 v6)) ∧ (¬ 300 < v2 → (wp_X9_goesOn v3 v4 v5 v6 (fun u7 : Bool × XRow × XRow × XRow × XRow => (u7.1 = true → (∀ x8 : Int32, x8 = v2 + 1 → (wp_X9_settlesAfter_L42 k42_62 fu x8 u7.2.1 u7.2.2.1 u7.2.2.2.1 u7.2.2.2.2))) ∧ (u7.1 = false → (k42_62 v2 u7.2.1 u7.2.2.1 u7.2.2.2.1 u7.2.2.2.2)))))
def wp_X9_settlesAfter (mg : XRow) (mspare : XRow) (mtrial : XRow) (mpart : XRow) (mcome : XRow) (post : (Int32 × Int32 × XRow × XRow × XRow × XRow × XRow) → Prop) : Prop := vp_in 0 672 ∧ (((mg ((0 : Int32).toNatClampNeg)) = 0 → (post (0, 1, mg, mspare, mtrial, mpart, mcome))) ∧ (¬ (mg ((0 : Int32).toNatClampNeg)) = 0 → (wp_X9_copies 672 mg 672 mspare 0 0 (fun u1 : XRow => ∃ fl, wp_X9_settlesAfter_L42  (fun (v9 : Int32) (v10 : XRow) (v11 : XRow) (v12 : XRow) (v13 : XRow) => wp_X9_copies 672 u1 672 v10 0 0 (fun u14 : XRow => (v9 ≤ 300 → (post (v9, 0, u14, u1, v11, v12, v13))) ∧ (¬ v9 ≤ 300 → (wp_X9_fails 2 (fun u15 : Int32 × Int32 => post (u15.1, u15.2, u14, u1, v11, v12, v13)))))) fl 0 mg mtrial mpart mcome))))
theorem in_X9_settlesAfter_X9 : ∀ w ∈ u_ws RX9 TX9 22, w ∈ wsX9_settlesAfter := by decide +kernel
set_option maxRecDepth 100000 in
set_option maxHeartbeats 4000000 in
theorem c_X9_settlesAfter (l : Launch) (D : va_G) (cy : Nat → ClassId) (sd : xSd) (A : Nat → Nat) (mg : XRow) (mkept : XRow) (mspare : XRow) (mtrial : XRow) (mpast : XRow) (mreport : XRow) (mpart : XRow) (mcome : XRow) (morder : XRow) (mtext : XRow) (mtold : XRow) (mahead : XRow) (mhasKept : Int32) (mpasts : Int32) (mreports : Int32) (mthrown : Int32) (mordering : Int32) (mdetail : Int32) (mlength : Int32) (mspot : Int32) (mnumber : Int32) (mtolds : Int32) {post : (Int32 × Int32 × XRow × XRow × XRow × XRow × XRow) → Prop} (hw : wp_X9_settlesAfter mg mspare mtrial mpart mcome post) : Ctr l D (xTys cy) sd yX9_settlesAfter wsX9_settlesAfter ({ frames := 5, cells := 0, slots := 0, locals := 123 } : Room) [.ref (A 0)] (fun u : Int32 × Int32 × XRow × XRow × XRow × XRow × XRow => some (.int u.1)) [((A 0), .inr (10, [.ref (A 1), .ref (A 2), .ref (A 3), .ref (A 4), .int mhasKept, .ref (A 5), .int mpasts, .ref (A 6), .int mreports, .int mthrown, .ref (A 7), .ref (A 8), .ref (A 9), .int mordering, .int mdetail, .ref (A 10), .int mlength, .int mspot, .int mnumber, .ref (A 11), .int mtolds, .ref (A 12)])), ((A 1), .inl (cy 0, 672, .inl mg)), ((A 2), .inl (cy 0, 672, .inl mkept)), ((A 3), .inl (cy 0, 672, .inl mspare)), ((A 4), .inl (cy 0, 672, .inl mtrial)), ((A 5), .inl (cy 0, 5376, .inl mpast)), ((A 6), .inl (cy 0, 6, .inl mreport)), ((A 7), .inl (cy 0, 5, .inl mpart)), ((A 8), .inl (cy 0, 5, .inl mcome)), ((A 9), .inl (cy 0, 60, .inl morder)), ((A 10), .inl (cy 0, 80, .inl mtext)), ((A 11), .inl (cy 0, 200, .inl mtold)), ((A 12), .inl (cy 0, 672, .inl mahead))] (fun u => [((A 0), .inr (10, [.ref (A 1), .ref (A 2), .ref (A 3), .ref (A 4), .int mhasKept, .ref (A 5), .int mpasts, .ref (A 6), .int mreports, .int u.2.1, .ref (A 7), .ref (A 8), .ref (A 9), .int mordering, .int mdetail, .ref (A 10), .int mlength, .int mspot, .int mnumber, .ref (A 11), .int mtolds, .ref (A 12)])), ((A 1), .inl (cy 0, 672, .inl u.2.2.1)), ((A 2), .inl (cy 0, 672, .inl mkept)), ((A 3), .inl (cy 0, 672, .inl u.2.2.2.1)), ((A 4), .inl (cy 0, 672, .inl u.2.2.2.2.1)), ((A 5), .inl (cy 0, 5376, .inl mpast)), ((A 6), .inl (cy 0, 6, .inl mreport)), ((A 7), .inl (cy 0, 5, .inl u.2.2.2.2.2.1)), ((A 8), .inl (cy 0, 5, .inl u.2.2.2.2.2.2)), ((A 9), .inl (cy 0, 60, .inl morder)), ((A 10), .inl (cy 0, 80, .inl mtext)), ((A 11), .inl (cy 0, 200, .inl mtold)), ((A 12), .inl (cy 0, 672, .inl mahead))]) post := by
  refine Ctr.of (cc := cX9_settlesAfter) (maxL := 2) (ret := (some .int)) (lv0 := [(0, .ref (A 0))]) (by decide) rfl (Nat.le_of_ble_eq_true rfl) rfl ?_
  intro X El hR Er Enm ED E En K
  have K : Cx X cX9_settlesAfter RX9 wsX9_settlesAfter (xTys cy) sd := K
  have E : X.2.2.2.2.2.2.2.2.2.2.1 = xMQ X (fun u : Int32 × Int32 × XRow × XRow × XRow × XRow × XRow => some (.int u.1)) post (fun u => [((A 0), .inr (10, [.ref (A 1), .ref (A 2), .ref (A 3), .ref (A 4), .int mhasKept, .ref (A 5), .int mpasts, .ref (A 6), .int mreports, .int u.2.1, .ref (A 7), .ref (A 8), .ref (A 9), .int mordering, .int mdetail, .ref (A 10), .int mlength, .int mspot, .int mnumber, .ref (A 11), .int mtolds, .ref (A 12)])), ((A 1), .inl (cy 0, 672, .inl u.2.2.1)), ((A 2), .inl (cy 0, 672, .inl mkept)), ((A 3), .inl (cy 0, 672, .inl u.2.2.2.1)), ((A 4), .inl (cy 0, 672, .inl u.2.2.2.2.1)), ((A 5), .inl (cy 0, 5376, .inl mpast)), ((A 6), .inl (cy 0, 6, .inl mreport)), ((A 7), .inl (cy 0, 5, .inl u.2.2.2.2.2.1)), ((A 8), .inl (cy 0, 5, .inl u.2.2.2.2.2.2)), ((A 9), .inl (cy 0, 60, .inl morder)), ((A 10), .inl (cy 0, 80, .inl mtext)), ((A 11), .inl (cy 0, 200, .inl mtold)), ((A 12), .inl (cy 0, 672, .inl mahead))]) 0 0 := E
  unfold wp_X9_settlesAfter at hw
  refine g_aload_n K 0 dX9_settlesAfter_0 rfl ?_
  refine g_aload_n K 0 dX9_settlesAfter_1 rfl ?_
  refine g_get K (C := RX9) (T := TX9) (N := 22) 0 0 in_X9_settlesAfter_X9 (by decide +kernel) rfl rfl (by decide) rfl dX9_settlesAfter_2 ?_
  refine g_iconst (v := 0) K dX9_settlesAfter_5 rfl ?_
  refine g_iald K 1 0 rfl rfl hw.1 dX9_settlesAfter_6 ?_
  replace hw := hw.2
  refine g_if_ne (tgt := 14) K dX9_settlesAfter_7 (by decide) (fun hc => ?_) (fun hc => ?_)
  · replace hw := hw.2 hc
    refine g_iconst (v := 0) K dX9_settlesAfter_14 rfl ?_
    refine g_put (ty := .int) (ws' := [((A 0), .inr (10, [.ref (A 1), .ref (A 2), .ref (A 3), .ref (A 4), .int mhasKept, .ref (A 5), .int mpasts, .ref (A 6), .int mreports, .int 0, .ref (A 7), .ref (A 8), .ref (A 9), .int mordering, .int mdetail, .ref (A 10), .int mlength, .int mspot, .int mnumber, .ref (A 11), .int mtolds, .ref (A 12)])), ((A 1), .inl (cy 0, 672, .inl mg)), ((A 2), .inl (cy 0, 672, .inl mkept)), ((A 3), .inl (cy 0, 672, .inl mspare)), ((A 4), .inl (cy 0, 672, .inl mtrial)), ((A 5), .inl (cy 0, 5376, .inl mpast)), ((A 6), .inl (cy 0, 6, .inl mreport)), ((A 7), .inl (cy 0, 5, .inl mpart)), ((A 8), .inl (cy 0, 5, .inl mcome)), ((A 9), .inl (cy 0, 60, .inl morder)), ((A 10), .inl (cy 0, 80, .inl mtext)), ((A 11), .inl (cy 0, 200, .inl mtold)), ((A 12), .inl (cy 0, 672, .inl mahead))]) K (C := RX9) (T := TX9) (N := 22) 0 9 in_X9_settlesAfter_X9 tyX9 tyX9_ok nmX9 (by decide +kernel) rfl rfl (by decide) rfl (by decide +kernel) rfl rfl (Nat.le_of_ble_eq_true rfl) rfl dX9_settlesAfter_15 ?_
    refine g_aload_n K 0 dX9_settlesAfter_18 rfl ?_
    refine g_get K (C := RX9) (T := TX9) (N := 22) 0 9 in_X9_settlesAfter_X9 (by decide +kernel) rfl rfl (by decide) rfl dX9_settlesAfter_19 ?_
    refine g_if_le (tgt := 27) K dX9_settlesAfter_22 (by decide) (fun _ => ?_) (fun hc => absurd (by decide) hc)
    refine g_aload_n K 0 dX9_settlesAfter_27 rfl ?_
    refine g_get K (C := RX9) (T := TX9) (N := 22) 0 0 in_X9_settlesAfter_X9 (by decide +kernel) rfl rfl (by decide) rfl dX9_settlesAfter_28 ?_
    refine g_iconst (v := 0) K dX9_settlesAfter_31 rfl ?_
    refine g_aload_n K 0 dX9_settlesAfter_32 rfl ?_
    refine g_get K (C := RX9) (T := TX9) (N := 22) 0 2 in_X9_settlesAfter_X9 (by decide +kernel) rfl rfl (by decide) rfl dX9_settlesAfter_33 ?_
    refine g_iconst (v := 0) K dX9_settlesAfter_36 rfl ?_
    refine g_callS (st' := fun u1 => []) (ws' := fun u1 => [((A 0), .inr (10, [.ref (A 1), .ref (A 2), .ref (A 3), .ref (A 4), .int mhasKept, .ref (A 5), .int mpasts, .ref (A 6), .int mreports, .int 0, .ref (A 7), .ref (A 8), .ref (A 9), .int mordering, .int mdetail, .ref (A 10), .int mlength, .int mspot, .int mnumber, .ref (A 11), .int mtolds, .ref (A 12)])), ((A 1), .inl (cy 0, 672, .inl mg)), ((A 2), .inl (cy 0, 672, .inl mkept)), ((A 3), .inl (cy 0, 672, .inl u1)), ((A 4), .inl (cy 0, 672, .inl mtrial)), ((A 5), .inl (cy 0, 5376, .inl mpast)), ((A 6), .inl (cy 0, 6, .inl mreport)), ((A 7), .inl (cy 0, 5, .inl mpart)), ((A 8), .inl (cy 0, 5, .inl mcome)), ((A 9), .inl (cy 0, 60, .inl morder)), ((A 10), .inl (cy 0, 80, .inl mtext)), ((A 11), .inl (cy 0, 200, .inl mtold)), ((A 12), .inl (cy 0, 672, .inl mahead))]) K hR [.ref (A 1), .int 0, .ref (A 3), .int 0] [] (c_X9_copies X.2.1 (gxD X) cy sd (A 1) (A 3) 672 mg 672 mspare 0 0 hw) gX9_settlesAfter_X9_copies rfl yok_X9_copies rfl (by decide) rfl (Nat.le_of_ble_eq_true rfl) dX9_settlesAfter_37 [1, 3] rfl (by decide) (fun _ => rfl) (fun _ => rfl) (fun _ => rfl) ⟨rfl, rfl⟩ (fun u1 hw => ?_)
    refine g_iconst (v := 0) K dX9_settlesAfter_40 rfl ?_
    refine g_istore_n (lv' := [(1, .int 0), (0, .ref (A 0))]) K dX9_settlesAfter_41 rfl (by rw [En]; decide) rfl ?_
    obtain ⟨fl, hw⟩ := hw
    have key : ∀ (k42_62 : Int32 → XRow → XRow → XRow → XRow → Prop), (∀ (v2 : Int32) (v3 : XRow) (v4 : XRow) (v5 : XRow) (v6 : XRow), k42_62 v2 v3 v4 v5 v6 → Gx X 0 0 [((A 0), .inr (10, [.ref (A 1), .ref (A 2), .ref (A 3), .ref (A 4), .int mhasKept, .ref (A 5), .int mpasts, .ref (A 6), .int mreports, .int 0, .ref (A 7), .ref (A 8), .ref (A 9), .int mordering, .int mdetail, .ref (A 10), .int mlength, .int mspot, .int mnumber, .ref (A 11), .int mtolds, .ref (A 12)])), ((A 1), .inl (cy 0, 672, .inl v3)), ((A 2), .inl (cy 0, 672, .inl mkept)), ((A 3), .inl (cy 0, 672, .inl u1)), ((A 4), .inl (cy 0, 672, .inl v4)), ((A 5), .inl (cy 0, 5376, .inl mpast)), ((A 6), .inl (cy 0, 6, .inl mreport)), ((A 7), .inl (cy 0, 5, .inl v5)), ((A 8), .inl (cy 0, 5, .inl v6)), ((A 9), .inl (cy 0, 60, .inl morder)), ((A 10), .inl (cy 0, 80, .inl mtext)), ((A 11), .inl (cy 0, 200, .inl mtold)), ((A 12), .inl (cy 0, 672, .inl mahead))] [(1, .int v2), (0, .ref (A 0))] 62 []) → ∀ (n : Nat) (v2 : Int32) (v3 : XRow) (v4 : XRow) (v5 : XRow) (v6 : XRow), wp_X9_settlesAfter_L42 k42_62 n v2 v3 v4 v5 v6 → Gx X 0 0 [((A 0), .inr (10, [.ref (A 1), .ref (A 2), .ref (A 3), .ref (A 4), .int mhasKept, .ref (A 5), .int mpasts, .ref (A 6), .int mreports, .int 0, .ref (A 7), .ref (A 8), .ref (A 9), .int mordering, .int mdetail, .ref (A 10), .int mlength, .int mspot, .int mnumber, .ref (A 11), .int mtolds, .ref (A 12)])), ((A 1), .inl (cy 0, 672, .inl v3)), ((A 2), .inl (cy 0, 672, .inl mkept)), ((A 3), .inl (cy 0, 672, .inl u1)), ((A 4), .inl (cy 0, 672, .inl v4)), ((A 5), .inl (cy 0, 5376, .inl mpast)), ((A 6), .inl (cy 0, 6, .inl mreport)), ((A 7), .inl (cy 0, 5, .inl v5)), ((A 8), .inl (cy 0, 5, .inl v6)), ((A 9), .inl (cy 0, 60, .inl morder)), ((A 10), .inl (cy 0, 80, .inl mtext)), ((A 11), .inl (cy 0, 200, .inl mtold)), ((A 12), .inl (cy 0, 672, .inl mahead))] [(1, .int v2), (0, .ref (A 0))] 42 [] := by
      intro k42_62 hx62 n
      induction n with
      | zero => intro v2 v3 v4 v5 v6 hw; exact hw.elim
      | succ n ih =>
        intro v2 v3 v4 v5 v6 hw
        refine g_iload_n K 0 dX9_settlesAfter_42 rfl ?_
        refine g_sipush (v := 300) K dX9_settlesAfter_43 rfl ?_
        refine g_icmp_gt (tgt := 62) K dX9_settlesAfter_46 (by decide) (fun hc => ?_) (fun hc => ?_)
        · replace hw := hw.1 hc
          exact hx62 _ _ _ _ _ hw
        · replace hw := hw.2 hc
          refine g_aload_n K 1 dX9_settlesAfter_49 rfl ?_
          refine g_callV (st' := fun u7 => [.int (bI u7.1)]) (ws' := fun u7 => [((A 0), .inr (10, [.ref (A 1), .ref (A 2), .ref (A 3), .ref (A 4), .int mhasKept, .ref (A 5), .int mpasts, .ref (A 6), .int mreports, .int 0, .ref (A 7), .ref (A 8), .ref (A 9), .int mordering, .int mdetail, .ref (A 10), .int mlength, .int mspot, .int mnumber, .ref (A 11), .int mtolds, .ref (A 12)])), ((A 1), .inl (cy 0, 672, .inl u7.2.1)), ((A 2), .inl (cy 0, 672, .inl mkept)), ((A 3), .inl (cy 0, 672, .inl u1)), ((A 4), .inl (cy 0, 672, .inl u7.2.2.1)), ((A 5), .inl (cy 0, 5376, .inl mpast)), ((A 6), .inl (cy 0, 6, .inl mreport)), ((A 7), .inl (cy 0, 5, .inl u7.2.2.2.1)), ((A 8), .inl (cy 0, 5, .inl u7.2.2.2.2)), ((A 9), .inl (cy 0, 60, .inl morder)), ((A 10), .inl (cy 0, 80, .inl mtext)), ((A 11), .inl (cy 0, 200, .inl mtold)), ((A 12), .inl (cy 0, 672, .inl mahead))]) K hR [] [] 0 rfl rfl (c_X9_goesOn X.2.1 (gxD X) cy sd A v3 mkept u1 v4 mpast mreport v5 v6 morder mtext mtold mahead mhasKept mpasts mreports 0 mordering mdetail mlength mspot mnumber mtolds hw) gX9_settlesAfter_X9_goesOn rfl yok_X9_goesOn rfl rfl (by decide) rfl (Nat.le_of_ble_eq_true rfl) dX9_settlesAfter_50 [0, 1, 2, 3, 4, 5, 6, 7, 8, 9, 10, 11, 12] rfl (by decide) (fun _ => rfl) (fun _ => rfl) (fun _ => rfl) ⟨rfl, rfl⟩ (fun u7 hw => ?_)
          refine g_ifb_eq (tgt := 62) K dX9_settlesAfter_53 (by decide) (fun hc => ?_) (fun hc => ?_)
          · replace hw := hw.2 hc
            exact hx62 _ _ _ _ _ hw
          · replace hw := hw.1 hc
            obtain ⟨x8, ex8⟩ : ∃ z : Int32, z = v2 + 1 := ⟨_, rfl⟩
            replace hw := hw x8 ex8
            refine g_iinc (v := x8) (lv' := [(1, .int x8), (0, .ref (A 0))]) K 0 dX9_settlesAfter_56 rfl (by rw [ex8]; rfl) (by rw [En]; decide) rfl ?_
            refine g_goto (tgt := 42) K dX9_settlesAfter_59 (by decide) ?_
            exact ih _ _ _ _ _ hw
    refine key _ (fun v9 v10 v11 v12 v13 hw => ?_) fl _ _ _ _ _ hw
    refine g_aload_n K 1 dX9_settlesAfter_62 rfl ?_
    refine g_get K (C := RX9) (T := TX9) (N := 22) 0 2 in_X9_settlesAfter_X9 (by decide +kernel) rfl rfl (by decide) rfl dX9_settlesAfter_63 ?_
    refine g_iconst (v := 0) K dX9_settlesAfter_66 rfl ?_
    refine g_aload_n K 1 dX9_settlesAfter_67 rfl ?_
    refine g_get K (C := RX9) (T := TX9) (N := 22) 0 0 in_X9_settlesAfter_X9 (by decide +kernel) rfl rfl (by decide) rfl dX9_settlesAfter_68 ?_
    refine g_iconst (v := 0) K dX9_settlesAfter_71 rfl ?_
    refine g_callS (st' := fun u14 => []) (ws' := fun u14 => [((A 0), .inr (10, [.ref (A 1), .ref (A 2), .ref (A 3), .ref (A 4), .int mhasKept, .ref (A 5), .int mpasts, .ref (A 6), .int mreports, .int 0, .ref (A 7), .ref (A 8), .ref (A 9), .int mordering, .int mdetail, .ref (A 10), .int mlength, .int mspot, .int mnumber, .ref (A 11), .int mtolds, .ref (A 12)])), ((A 1), .inl (cy 0, 672, .inl u14)), ((A 2), .inl (cy 0, 672, .inl mkept)), ((A 3), .inl (cy 0, 672, .inl u1)), ((A 4), .inl (cy 0, 672, .inl v11)), ((A 5), .inl (cy 0, 5376, .inl mpast)), ((A 6), .inl (cy 0, 6, .inl mreport)), ((A 7), .inl (cy 0, 5, .inl v12)), ((A 8), .inl (cy 0, 5, .inl v13)), ((A 9), .inl (cy 0, 60, .inl morder)), ((A 10), .inl (cy 0, 80, .inl mtext)), ((A 11), .inl (cy 0, 200, .inl mtold)), ((A 12), .inl (cy 0, 672, .inl mahead))]) K hR [.ref (A 3), .int 0, .ref (A 1), .int 0] [] (c_X9_copies X.2.1 (gxD X) cy sd (A 3) (A 1) 672 u1 672 v10 0 0 hw) gX9_settlesAfter_X9_copies rfl yok_X9_copies rfl (by decide) rfl (Nat.le_of_ble_eq_true rfl) dX9_settlesAfter_72 [3, 1] rfl (by decide) (fun _ => rfl) (fun _ => rfl) (fun _ => rfl) ⟨rfl, rfl⟩ (fun u14 hw => ?_)
    refine g_iload_n K 0 dX9_settlesAfter_75 rfl ?_
    refine g_sipush (v := 300) K dX9_settlesAfter_76 rfl ?_
    refine g_icmp_le (tgt := 90) K dX9_settlesAfter_79 (by decide) (fun hc => ?_) (fun hc => ?_)
    · replace hw := hw.1 hc
      refine g_iload_n K 0 dX9_settlesAfter_90 rfl ?_
      exact g_zret K E Er (v9, 0, u14, u1, v11, v12, v13) hw rfl rfl rfl (Nat.le_refl _) (Nat.le_refl _) dX9_settlesAfter_91
    · replace hw := hw.2 hc
      refine g_aload_n K 1 dX9_settlesAfter_82 rfl ?_
      refine g_iconst (v := 2) K dX9_settlesAfter_83 rfl ?_
      refine g_callV (st' := fun u15 => [.int u15.1]) (ws' := fun u15 => [((A 0), .inr (10, [.ref (A 1), .ref (A 2), .ref (A 3), .ref (A 4), .int mhasKept, .ref (A 5), .int mpasts, .ref (A 6), .int mreports, .int u15.2, .ref (A 7), .ref (A 8), .ref (A 9), .int mordering, .int mdetail, .ref (A 10), .int mlength, .int mspot, .int mnumber, .ref (A 11), .int mtolds, .ref (A 12)])), ((A 1), .inl (cy 0, 672, .inl u14)), ((A 2), .inl (cy 0, 672, .inl mkept)), ((A 3), .inl (cy 0, 672, .inl u1)), ((A 4), .inl (cy 0, 672, .inl v11)), ((A 5), .inl (cy 0, 5376, .inl mpast)), ((A 6), .inl (cy 0, 6, .inl mreport)), ((A 7), .inl (cy 0, 5, .inl v12)), ((A 8), .inl (cy 0, 5, .inl v13)), ((A 9), .inl (cy 0, 60, .inl morder)), ((A 10), .inl (cy 0, 80, .inl mtext)), ((A 11), .inl (cy 0, 200, .inl mtold)), ((A 12), .inl (cy 0, 672, .inl mahead))]) K hR [.int 2] [] 0 rfl rfl (c_X9_fails X.2.1 (gxD X) cy sd A u14 mkept u1 v11 mpast mreport v12 v13 morder mtext mtold mahead mhasKept mpasts mreports 0 mordering mdetail mlength mspot mnumber mtolds 2 hw) gX9_settlesAfter_X9_fails rfl yok_X9_fails rfl rfl (by decide) rfl (Nat.le_of_ble_eq_true rfl) dX9_settlesAfter_84 [0, 1, 2, 3, 4, 5, 6, 7, 8, 9, 10, 11, 12] rfl (by decide) (fun _ => rfl) (fun _ => rfl) (fun _ => rfl) ⟨rfl, rfl⟩ (fun u15 hw => ?_)
      refine g_goto (tgt := 91) K dX9_settlesAfter_87 (by decide) ?_
      exact g_zret K E Er (u15.1, u15.2, u14, u1, v11, v12, v13) hw rfl rfl rfl (Nat.le_refl _) (Nat.le_refl _) dX9_settlesAfter_91
  · replace hw := hw.1 hc
    refine g_iconst (v := 1) K dX9_settlesAfter_10 rfl ?_
    refine g_goto (tgt := 15) K dX9_settlesAfter_11 (by decide) ?_
    refine g_put (ty := .int) (ws' := [((A 0), .inr (10, [.ref (A 1), .ref (A 2), .ref (A 3), .ref (A 4), .int mhasKept, .ref (A 5), .int mpasts, .ref (A 6), .int mreports, .int 1, .ref (A 7), .ref (A 8), .ref (A 9), .int mordering, .int mdetail, .ref (A 10), .int mlength, .int mspot, .int mnumber, .ref (A 11), .int mtolds, .ref (A 12)])), ((A 1), .inl (cy 0, 672, .inl mg)), ((A 2), .inl (cy 0, 672, .inl mkept)), ((A 3), .inl (cy 0, 672, .inl mspare)), ((A 4), .inl (cy 0, 672, .inl mtrial)), ((A 5), .inl (cy 0, 5376, .inl mpast)), ((A 6), .inl (cy 0, 6, .inl mreport)), ((A 7), .inl (cy 0, 5, .inl mpart)), ((A 8), .inl (cy 0, 5, .inl mcome)), ((A 9), .inl (cy 0, 60, .inl morder)), ((A 10), .inl (cy 0, 80, .inl mtext)), ((A 11), .inl (cy 0, 200, .inl mtold)), ((A 12), .inl (cy 0, 672, .inl mahead))]) K (C := RX9) (T := TX9) (N := 22) 0 9 in_X9_settlesAfter_X9 tyX9 tyX9_ok nmX9 (by decide +kernel) rfl rfl (by decide) rfl (by decide +kernel) rfl rfl (Nat.le_of_ble_eq_true rfl) rfl dX9_settlesAfter_15 ?_
    refine g_aload_n K 0 dX9_settlesAfter_18 rfl ?_
    refine g_get K (C := RX9) (T := TX9) (N := 22) 0 9 in_X9_settlesAfter_X9 (by decide +kernel) rfl rfl (by decide) rfl dX9_settlesAfter_19 ?_
    refine g_if_le (tgt := 27) K dX9_settlesAfter_22 (by decide) (fun hc => absurd hc (by decide)) (fun _ => ?_)
    refine g_iconst (v := 0) K dX9_settlesAfter_25 rfl ?_
    exact g_zret K E Er (0, 1, mg, mspare, mtrial, mpart, mcome) hw rfl rfl rfl (Nat.le_refl _) (Nat.le_refl _) dX9_settlesAfter_26
