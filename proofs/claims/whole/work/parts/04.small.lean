theorem yok_X8_isWithin : yOk yX8_isWithin 3 := by decide +kernel
theorem yok_X8_isMaterial : yOk yX8_isMaterial 1 := by decide +kernel
theorem yok_X8_perThousand : yOk yX8_perThousand 2 := by decide +kernel
theorem yok_X8_gradeOf : yOk yX8_gradeOf 1 := by decide +kernel
theorem yok_X0_copyFrom : yOk yX0_copyFrom 1 := by decide +kernel
theorem yok_X0_isThere : yOk yX0_isThere 1 := by decide +kernel
theorem yok_X0_materialOf : yOk yX0_materialOf 1 := by decide +kernel
theorem yok_X0_isInStock : yOk yX0_isInStock 1 := by decide +kernel
theorem yok_X0_kilosIn : yOk yX0_kilosIn 1 := by decide +kernel
theorem yok_X0_stockOf : yOk yX0_stockOf 2 := by decide +kernel
theorem yok_X0_unloopedKilos : yOk yX0_unloopedKilos 1 := by decide +kernel
theorem yok_X0_atPlace : yOk yX0_atPlace 1 := by decide +kernel
theorem yok_X0_isAhead : yOk yX0_isAhead 2 := by decide +kernel
theorem yok_X0_insert : yOk yX0_insert 2 := by decide +kernel
theorem yok_X0_putInOrder : yOk yX0_putInOrder 0 := by decide +kernel
theorem yok_X1_copyFrom : yOk yX1_copyFrom 1 := by decide +kernel
theorem yok_X1_faultOfNew : yOk yX1_faultOfNew 4 := by decide +kernel
theorem yok_X1_add : yOk yX1_add 4 := by decide +kernel
theorem yok_X1_take : yOk yX1_take 2 := by decide +kernel
theorem yok_X1_isFor : yOk yX1_isFor 2 := by decide +kernel
theorem yok_X1_isBetter : yOk yX1_isBetter 2 := by decide +kernel
theorem yok_X1_bestFor : yOk yX1_bestFor 3 := by decide +kernel
theorem yok_X1_leastFloor : yOk yX1_leastFloor 1 := by decide +kernel
theorem yok_X1_mostWanted : yOk yX1_mostWanted 2 := by decide +kernel
theorem yok_X5_fill : yOk yX5_fill 3 := by decide +kernel
theorem yok_X5_replace : yOk yX5_replace 5 := by decide +kernel
theorem yok_X5_part : yOk yX5_part 2 := by decide +kernel
def wp_X8_isWithin (p0 : Int32) (p1 : Int32) (p2 : Int32) (post : Bool → Prop) : Prop := (p0 < p1 → (post false)) ∧ (¬ p0 < p1 → ((p2 < p0 → (post false)) ∧ (¬ p2 < p0 → (post true))))
set_option maxRecDepth 100000 in
set_option maxHeartbeats 4000000 in
theorem c_X8_isWithin (l : Launch) (D : va_G) (cy : Nat → ClassId) (sd : xSd)  (p0 : Int32) (p1 : Int32) (p2 : Int32) {post : Bool → Prop} (hw : wp_X8_isWithin p0 p1 p2 post) : Ctr l D (xTys cy) sd yX8_isWithin wsX8_isWithin ({ frames := 0, cells := 0, slots := 0, locals := 0 } : Room) [.int p0, .int p1, .int p2] (fun u : Bool => some (.int (bI u))) [] (fun _ => []) post := by
  refine Ctr.of (cc := cX8_isWithin) (maxL := 3) (ret := (some .boolean)) (lv0 := [(0, .int p0), (1, .int p1), (2, .int p2)]) (by decide) rfl (Nat.le_of_ble_eq_true rfl) rfl ?_
  intro X El hR Er Enm ED E En K
  have K : Cx X cX8_isWithin RX8 wsX8_isWithin (xTys cy) sd := K
  have E : X.2.2.2.2.2.2.2.2.2.2.1 = xMQ X (fun u : Bool => some (.int (bI u))) post (fun _ => []) 0 0 := E
  unfold wp_X8_isWithin at hw
  refine g_iload_n K 0 dX8_isWithin_0 rfl ?_
  refine g_iload_n K 1 dX8_isWithin_1 rfl ?_
  refine g_icmp_lt (tgt := 14) K dX8_isWithin_2 (by decide) (fun hc => ?_) (fun hc => ?_)
  · replace hw := hw.1 hc
    refine g_iconst (v := 0) K dX8_isWithin_14 rfl ?_
    exact g_zret K E Er false hw rfl rfl rfl (Nat.le_refl _) (Nat.le_refl _) dX8_isWithin_15
  · replace hw := hw.2 hc
    refine g_iload_n K 0 dX8_isWithin_5 rfl ?_
    refine g_iload_n K 2 dX8_isWithin_6 rfl ?_
    refine g_icmp_gt (tgt := 14) K dX8_isWithin_7 (by decide) (fun hc => ?_) (fun hc => ?_)
    · replace hw := hw.1 hc
      refine g_iconst (v := 0) K dX8_isWithin_14 rfl ?_
      exact g_zret K E Er false hw rfl rfl rfl (Nat.le_refl _) (Nat.le_refl _) dX8_isWithin_15
    · replace hw := hw.2 hc
      refine g_iconst (v := 1) K dX8_isWithin_10 rfl ?_
      refine g_goto (tgt := 15) K dX8_isWithin_11 (by decide) ?_
      exact g_zret K E Er true hw rfl rfl rfl (Nat.le_refl _) (Nat.le_refl _) dX8_isWithin_15

def wp_X8_isMaterial (p0 : Int32) (post : Bool → Prop) : Prop := wp_X8_isWithin p0 0 4 (fun u1 : Bool => post u1)
set_option maxRecDepth 100000 in
set_option maxHeartbeats 4000000 in
theorem c_X8_isMaterial (l : Launch) (D : va_G) (cy : Nat → ClassId) (sd : xSd)  (p0 : Int32) {post : Bool → Prop} (hw : wp_X8_isMaterial p0 post) : Ctr l D (xTys cy) sd yX8_isMaterial wsX8_isMaterial ({ frames := 1, cells := 0, slots := 0, locals := 22 } : Room) [.int p0] (fun u : Bool => some (.int (bI u))) [] (fun _ => []) post := by
  refine Ctr.of (cc := cX8_isMaterial) (maxL := 1) (ret := (some .boolean)) (lv0 := [(0, .int p0)]) (by decide) rfl (Nat.le_of_ble_eq_true rfl) rfl ?_
  intro X El hR Er Enm ED E En K
  have K : Cx X cX8_isMaterial RX8 wsX8_isMaterial (xTys cy) sd := K
  have E : X.2.2.2.2.2.2.2.2.2.2.1 = xMQ X (fun u : Bool => some (.int (bI u))) post (fun _ => []) 0 0 := E
  unfold wp_X8_isMaterial at hw
  refine g_iload_n K 0 dX8_isMaterial_0 rfl ?_
  refine g_iconst (v := 0) K dX8_isMaterial_1 rfl ?_
  refine g_iconst (v := 4) K dX8_isMaterial_2 rfl ?_
  refine g_callSr (st' := fun u1 => [.int (bI u1)]) K hR [.int p0, .int 0, .int 4] [] (c_X8_isWithin X.2.1 (gxD X) cy sd p0 0 4 hw) gX8_isMaterial_X8_isWithin rfl yok_X8_isWithin rfl (by decide) rfl (Nat.le_of_ble_eq_true rfl) dX8_isMaterial_3 [] rfl (by decide) (fun _ => rfl) ⟨rfl, rfl⟩ (fun u1 hw => ?_)
  exact g_zret K E Er u1 hw rfl (bI_narrow _) rfl (Nat.le_refl _) (Nat.le_refl _) dX8_isMaterial_6

def wp_X8_perThousand (p0 : Int32) (p1 : Int32) (post : Int32 → Prop) : Prop := (p1 ≤ 0 → (post 0)) ∧ (¬ p1 ≤ 0 → ((¬ p1 = 0) ∧ (post ((p0 * 1000) / p1))))
set_option maxRecDepth 100000 in
set_option maxHeartbeats 4000000 in
theorem c_X8_perThousand (l : Launch) (D : va_G) (cy : Nat → ClassId) (sd : xSd)  (p0 : Int32) (p1 : Int32) {post : Int32 → Prop} (hw : wp_X8_perThousand p0 p1 post) : Ctr l D (xTys cy) sd yX8_perThousand wsX8_perThousand ({ frames := 0, cells := 0, slots := 0, locals := 0 } : Room) [.int p0, .int p1] (fun u : Int32 => some (.int u)) [] (fun _ => []) post := by
  refine Ctr.of (cc := cX8_perThousand) (maxL := 2) (ret := (some .int)) (lv0 := [(0, .int p0), (1, .int p1)]) (by decide) rfl (Nat.le_of_ble_eq_true rfl) rfl ?_
  intro X El hR Er Enm ED E En K
  have K : Cx X cX8_perThousand RX8 wsX8_perThousand (xTys cy) sd := K
  have E : X.2.2.2.2.2.2.2.2.2.2.1 = xMQ X (fun u : Int32 => some (.int u)) post (fun _ => []) 0 0 := E
  unfold wp_X8_perThousand at hw
  refine g_iload_n K 1 dX8_perThousand_0 rfl ?_
  refine g_if_le (tgt := 14) K dX8_perThousand_1 (by decide) (fun hc => ?_) (fun hc => ?_)
  · replace hw := hw.1 hc
    refine g_iconst (v := 0) K dX8_perThousand_14 rfl ?_
    exact g_zret K E Er 0 hw rfl rfl rfl (Nat.le_refl _) (Nat.le_refl _) dX8_perThousand_15
  · replace hw := hw.2 hc
    refine g_iload_n K 0 dX8_perThousand_4 rfl ?_
    refine g_sipush (v := 1000) K dX8_perThousand_5 rfl ?_
    refine g_imul K dX8_perThousand_8 ?_
    refine g_iload_n K 1 dX8_perThousand_9 rfl ?_
    refine g_idiv K dX8_perThousand_10 hw.1 ?_
    replace hw := hw.2
    refine g_goto (tgt := 15) K dX8_perThousand_11 (by decide) ?_
    exact g_zret K E Er ((p0 * 1000) / p1) hw rfl rfl rfl (Nat.le_refl _) (Nat.le_refl _) dX8_perThousand_15

def wp_X8_gradeOf (p0 : Int32) (post : Int32 → Prop) : Prop := (p0 < 950 → ((p0 < 850 → ((p0 < 700 → (post 3)) ∧ (¬ p0 < 700 → (post 2)))) ∧ (¬ p0 < 850 → (post 1)))) ∧ (¬ p0 < 950 → (post 0))
set_option maxRecDepth 100000 in
set_option maxHeartbeats 4000000 in
theorem c_X8_gradeOf (l : Launch) (D : va_G) (cy : Nat → ClassId) (sd : xSd)  (p0 : Int32) {post : Int32 → Prop} (hw : wp_X8_gradeOf p0 post) : Ctr l D (xTys cy) sd yX8_gradeOf wsX8_gradeOf ({ frames := 0, cells := 0, slots := 0, locals := 0 } : Room) [.int p0] (fun u : Int32 => some (.int u)) [] (fun _ => []) post := by
  refine Ctr.of (cc := cX8_gradeOf) (maxL := 1) (ret := (some .int)) (lv0 := [(0, .int p0)]) (by decide) rfl (Nat.le_of_ble_eq_true rfl) rfl ?_
  intro X El hR Er Enm ED E En K
  have K : Cx X cX8_gradeOf RX8 wsX8_gradeOf (xTys cy) sd := K
  have E : X.2.2.2.2.2.2.2.2.2.2.1 = xMQ X (fun u : Int32 => some (.int u)) post (fun _ => []) 0 0 := E
  unfold wp_X8_gradeOf at hw
  refine g_iload_n K 0 dX8_gradeOf_0 rfl ?_
  refine g_sipush (v := 950) K dX8_gradeOf_1 rfl ?_
  refine g_icmp_lt (tgt := 9) K dX8_gradeOf_4 (by decide) (fun hc => ?_) (fun hc => ?_)
  · replace hw := hw.1 hc
    refine g_iload_n K 0 dX8_gradeOf_9 rfl ?_
    refine g_sipush (v := 850) K dX8_gradeOf_10 rfl ?_
    refine g_icmp_lt (tgt := 18) K dX8_gradeOf_13 (by decide) (fun hc => ?_) (fun hc => ?_)
    · replace hw := hw.1 hc
      refine g_iload_n K 0 dX8_gradeOf_18 rfl ?_
      refine g_sipush (v := 700) K dX8_gradeOf_19 rfl ?_
      refine g_icmp_lt (tgt := 29) K dX8_gradeOf_22 (by decide) (fun hc => ?_) (fun hc => ?_)
      · replace hw := hw.1 hc
        refine g_iconst (v := 3) K dX8_gradeOf_29 rfl ?_
        exact g_zret K E Er 3 hw rfl rfl rfl (Nat.le_refl _) (Nat.le_refl _) dX8_gradeOf_30
      · replace hw := hw.2 hc
        refine g_iconst (v := 2) K dX8_gradeOf_25 rfl ?_
        refine g_goto (tgt := 30) K dX8_gradeOf_26 (by decide) ?_
        exact g_zret K E Er 2 hw rfl rfl rfl (Nat.le_refl _) (Nat.le_refl _) dX8_gradeOf_30
    · replace hw := hw.2 hc
      refine g_iconst (v := 1) K dX8_gradeOf_16 rfl ?_
      exact g_zret K E Er 1 hw rfl rfl rfl (Nat.le_refl _) (Nat.le_refl _) dX8_gradeOf_17
  · replace hw := hw.2 hc
    refine g_iconst (v := 0) K dX8_gradeOf_7 rfl ?_
    exact g_zret K E Er 0 hw rfl rfl rfl (Nat.le_refl _) (Nat.le_refl _) dX8_gradeOf_8

def wp_X0_copyFrom (dN : XRow) (dNb : XRow) (dBcb : Int32) (post : (Int32 × XRow) → Prop) : Prop := wp_X6_copyFrom 720 dN 720 dNb (fun u1 : XRow => post (dBcb, u1))
theorem in_X0_copyFrom_X0 : ∀ w ∈ u_ws RX0 TX0 3, w ∈ wsX0_copyFrom := by decide +kernel
set_option maxRecDepth 100000 in
set_option maxHeartbeats 4000000 in
theorem c_X0_copyFrom (l : Launch) (D : va_G) (cy : Nat → ClassId) (sd : xSd) (a0 a1 a2 a3 a4 : Nat) (b0 b1 b2 b3 b4 : Nat) (dN : XRow) (dBc : Int32) (dO : XRow) (dNb : XRow) (dBcb : Int32) (dOb : XRow) {post : (Int32 × XRow) → Prop} (hw : wp_X0_copyFrom dN dNb dBcb post) : Ctr l D (xTys cy) sd yX0_copyFrom wsX0_copyFrom ({ frames := 2, cells := 0, slots := 0, locals := 81 } : Room) [.ref a0, .ref b0] (fun u : Int32 × XRow => none) [(a0, .inr (2, [.ref a1, .ref a3, .int dBc])), (a1, .inr (7, [.int 12, .ref a2])), (a2, .inl (cy 0, 720, .inl dN)), (a3, .inr (7, [.int 60, .ref a4])), (a4, .inl (cy 0, 60, .inl dO)), (b0, .inr (2, [.ref b1, .ref b3, .int dBcb])), (b1, .inr (7, [.int 12, .ref b2])), (b2, .inl (cy 0, 720, .inl dNb)), (b3, .inr (7, [.int 60, .ref b4])), (b4, .inl (cy 0, 60, .inl dOb))] (fun u => [(a0, .inr (2, [.ref a1, .ref a3, .int u.1])), (a1, .inr (7, [.int 12, .ref a2])), (a2, .inl (cy 0, 720, .inl u.2)), (a3, .inr (7, [.int 60, .ref a4])), (a4, .inl (cy 0, 60, .inl dO)), (b0, .inr (2, [.ref b1, .ref b3, .int dBcb])), (b1, .inr (7, [.int 12, .ref b2])), (b2, .inl (cy 0, 720, .inl dNb)), (b3, .inr (7, [.int 60, .ref b4])), (b4, .inl (cy 0, 60, .inl dOb))]) post := by
  refine Ctr.of (cc := cX0_copyFrom) (maxL := 2) (ret := none) (lv0 := [(0, .ref a0), (1, .ref b0)]) (by decide) rfl (Nat.le_of_ble_eq_true rfl) rfl ?_
  intro X El hR Er Enm ED E En K
  have K : Cx X cX0_copyFrom RX0 wsX0_copyFrom (xTys cy) sd := K
  have E : X.2.2.2.2.2.2.2.2.2.2.1 = xMQ X (fun u : Int32 × XRow => none) post (fun u => [(a0, .inr (2, [.ref a1, .ref a3, .int u.1])), (a1, .inr (7, [.int 12, .ref a2])), (a2, .inl (cy 0, 720, .inl u.2)), (a3, .inr (7, [.int 60, .ref a4])), (a4, .inl (cy 0, 60, .inl dO)), (b0, .inr (2, [.ref b1, .ref b3, .int dBcb])), (b1, .inr (7, [.int 12, .ref b2])), (b2, .inl (cy 0, 720, .inl dNb)), (b3, .inr (7, [.int 60, .ref b4])), (b4, .inl (cy 0, 60, .inl dOb))]) 0 0 := E
  unfold wp_X0_copyFrom at hw
  refine g_aload_n K 0 dX0_copyFrom_0 rfl ?_
  refine g_get K (C := RX0) (T := TX0) (N := 3) 0 0 in_X0_copyFrom_X0 (by decide +kernel) rfl rfl (by decide) rfl dX0_copyFrom_1 ?_
  refine g_aload_n K 1 dX0_copyFrom_4 rfl ?_
  refine g_get K (C := RX0) (T := TX0) (N := 3) 5 0 in_X0_copyFrom_X0 (by decide +kernel) rfl rfl (by decide) rfl dX0_copyFrom_5 ?_
  refine g_callV (st' := fun u1 => []) (ws' := fun u1 => [(a0, .inr (2, [.ref a1, .ref a3, .int dBc])), (a1, .inr (7, [.int 12, .ref a2])), (a2, .inl (cy 0, 720, .inl u1)), (a3, .inr (7, [.int 60, .ref a4])), (a4, .inl (cy 0, 60, .inl dO)), (b0, .inr (2, [.ref b1, .ref b3, .int dBcb])), (b1, .inr (7, [.int 12, .ref b2])), (b2, .inl (cy 0, 720, .inl dNb)), (b3, .inr (7, [.int 60, .ref b4])), (b4, .inl (cy 0, 60, .inl dOb))]) K hR [.ref b1] [] 1 rfl rfl (c_X6_copyFrom X.2.1 (gxD X) cy sd a1 a2 b1 b2 12 720 dN 12 720 dNb hw) gX0_copyFrom_X6_copyFrom rfl yok_X6_copyFrom rfl rfl (by decide) rfl (Nat.le_of_ble_eq_true rfl) dX0_copyFrom_8 [1, 2, 6, 7] rfl (by decide) (fun _ => rfl) (fun _ => rfl) (fun _ => rfl) ⟨rfl, rfl⟩ (fun u1 hw => ?_)
  refine g_aload_n K 0 dX0_copyFrom_11 rfl ?_
  refine g_aload_n K 1 dX0_copyFrom_12 rfl ?_
  refine g_get K (C := RX0) (T := TX0) (N := 3) 5 2 in_X0_copyFrom_X0 (by decide +kernel) rfl rfl (by decide) rfl dX0_copyFrom_13 ?_
  refine g_put (ty := .int) (ws' := [(a0, .inr (2, [.ref a1, .ref a3, .int dBcb])), (a1, .inr (7, [.int 12, .ref a2])), (a2, .inl (cy 0, 720, .inl u1)), (a3, .inr (7, [.int 60, .ref a4])), (a4, .inl (cy 0, 60, .inl dO)), (b0, .inr (2, [.ref b1, .ref b3, .int dBcb])), (b1, .inr (7, [.int 12, .ref b2])), (b2, .inl (cy 0, 720, .inl dNb)), (b3, .inr (7, [.int 60, .ref b4])), (b4, .inl (cy 0, 60, .inl dOb))]) K (C := RX0) (T := TX0) (N := 3) 0 2 in_X0_copyFrom_X0 tyX0 tyX0_ok nmX0 (by decide +kernel) rfl rfl (by decide) rfl (by decide +kernel) rfl rfl (Nat.le_of_ble_eq_true rfl) rfl dX0_copyFrom_16 ?_
  exact g_vret K E Er (dBcb, u1) hw rfl rfl (Nat.le_refl _) (Nat.le_refl _) dX0_copyFrom_19

def wp_X0_isThere (dBc : Int32) (p0 : Int32) (post : Bool → Prop) : Prop := wp_X8_isWithin p0 0 (dBc - 1) (fun u1 : Bool => post u1)
theorem in_X0_isThere_X0 : ∀ w ∈ u_ws RX0 TX0 3, w ∈ wsX0_isThere := by decide +kernel
set_option maxRecDepth 100000 in
set_option maxHeartbeats 4000000 in
theorem c_X0_isThere (l : Launch) (D : va_G) (cy : Nat → ClassId) (sd : xSd) (a0 a1 a2 a3 a4 : Nat) (dN : XRow) (dBc : Int32) (dO : XRow) (p0 : Int32) {post : Bool → Prop} (hw : wp_X0_isThere dBc p0 post) : Ctr l D (xTys cy) sd yX0_isThere wsX0_isThere ({ frames := 1, cells := 0, slots := 0, locals := 22 } : Room) [.ref a0, .int p0] (fun u : Bool => some (.int (bI u))) [(a0, .inr (2, [.ref a1, .ref a3, .int dBc])), (a1, .inr (7, [.int 12, .ref a2])), (a2, .inl (cy 0, 720, .inl dN)), (a3, .inr (7, [.int 60, .ref a4])), (a4, .inl (cy 0, 60, .inl dO))] (fun _ => [(a0, .inr (2, [.ref a1, .ref a3, .int dBc])), (a1, .inr (7, [.int 12, .ref a2])), (a2, .inl (cy 0, 720, .inl dN)), (a3, .inr (7, [.int 60, .ref a4])), (a4, .inl (cy 0, 60, .inl dO))]) post := by
  refine Ctr.of (cc := cX0_isThere) (maxL := 2) (ret := (some .boolean)) (lv0 := [(0, .ref a0), (1, .int p0)]) (by decide) rfl (Nat.le_of_ble_eq_true rfl) rfl ?_
  intro X El hR Er Enm ED E En K
  have K : Cx X cX0_isThere RX0 wsX0_isThere (xTys cy) sd := K
  have E : X.2.2.2.2.2.2.2.2.2.2.1 = xMQ X (fun u : Bool => some (.int (bI u))) post (fun _ => [(a0, .inr (2, [.ref a1, .ref a3, .int dBc])), (a1, .inr (7, [.int 12, .ref a2])), (a2, .inl (cy 0, 720, .inl dN)), (a3, .inr (7, [.int 60, .ref a4])), (a4, .inl (cy 0, 60, .inl dO))]) 0 0 := E
  unfold wp_X0_isThere at hw
  refine g_iload_n K 1 dX0_isThere_0 rfl ?_
  refine g_iconst (v := 0) K dX0_isThere_1 rfl ?_
  refine g_aload_n K 0 dX0_isThere_2 rfl ?_
  refine g_get K (C := RX0) (T := TX0) (N := 3) 0 2 in_X0_isThere_X0 (by decide +kernel) rfl rfl (by decide) rfl dX0_isThere_3 ?_
  refine g_iconst (v := 1) K dX0_isThere_6 rfl ?_
  refine g_isub K dX0_isThere_7 ?_
  refine g_callSNr (st' := fun u1 => [.int (bI u1)]) K hR [.int p0, .int 0, .int (dBc - 1)] [] RX8 (by decide +kernel) (by decide +kernel) (by decide +kernel) (c_X8_isWithin X.2.1 (gxD X) cy sd p0 0 (dBc - 1) hw) gX0_isThere_X8_isWithin_n31 rfl yok_X8_isWithin rfl (by decide) rfl (Nat.le_of_ble_eq_true rfl) dX0_isThere_8 [] rfl (by decide) (fun _ => rfl) ⟨rfl, rfl⟩ (fun u1 hw => ?_)
  exact g_zret K E Er u1 hw rfl (bI_narrow _) rfl (Nat.le_refl _) (Nat.le_refl _) dX0_isThere_11

def wp_X0_materialOf (dN : XRow) (p0 : Int32) (post : Int32 → Prop) : Prop := wp_X6_get 12 720 dN p0 5 (fun u1 : Int32 => post u1)
theorem in_X0_materialOf_X0 : ∀ w ∈ u_ws RX0 TX0 3, w ∈ wsX0_materialOf := by decide +kernel
set_option maxRecDepth 100000 in
set_option maxHeartbeats 4000000 in
theorem c_X0_materialOf (l : Launch) (D : va_G) (cy : Nat → ClassId) (sd : xSd) (a0 a1 a2 a3 a4 : Nat) (dN : XRow) (dBc : Int32) (dO : XRow) (p0 : Int32) {post : Int32 → Prop} (hw : wp_X0_materialOf dN p0 post) : Ctr l D (xTys cy) sd yX0_materialOf wsX0_materialOf ({ frames := 1, cells := 0, slots := 0, locals := 23 } : Room) [.ref a0, .int p0] (fun u : Int32 => some (.int u)) [(a0, .inr (2, [.ref a1, .ref a3, .int dBc])), (a1, .inr (7, [.int 12, .ref a2])), (a2, .inl (cy 0, 720, .inl dN)), (a3, .inr (7, [.int 60, .ref a4])), (a4, .inl (cy 0, 60, .inl dO))] (fun _ => [(a0, .inr (2, [.ref a1, .ref a3, .int dBc])), (a1, .inr (7, [.int 12, .ref a2])), (a2, .inl (cy 0, 720, .inl dN)), (a3, .inr (7, [.int 60, .ref a4])), (a4, .inl (cy 0, 60, .inl dO))]) post := by
  refine Ctr.of (cc := cX0_materialOf) (maxL := 2) (ret := (some .int)) (lv0 := [(0, .ref a0), (1, .int p0)]) (by decide) rfl (Nat.le_of_ble_eq_true rfl) rfl ?_
  intro X El hR Er Enm ED E En K
  have K : Cx X cX0_materialOf RX0 wsX0_materialOf (xTys cy) sd := K
  have E : X.2.2.2.2.2.2.2.2.2.2.1 = xMQ X (fun u : Int32 => some (.int u)) post (fun _ => [(a0, .inr (2, [.ref a1, .ref a3, .int dBc])), (a1, .inr (7, [.int 12, .ref a2])), (a2, .inl (cy 0, 720, .inl dN)), (a3, .inr (7, [.int 60, .ref a4])), (a4, .inl (cy 0, 60, .inl dO))]) 0 0 := E
  unfold wp_X0_materialOf at hw
  refine g_aload_n K 0 dX0_materialOf_0 rfl ?_
  refine g_get K (C := RX0) (T := TX0) (N := 3) 0 0 in_X0_materialOf_X0 (by decide +kernel) rfl rfl (by decide) rfl dX0_materialOf_1 ?_
  refine g_iload_n K 1 dX0_materialOf_4 rfl ?_
  refine g_iconst (v := 5) K dX0_materialOf_5 rfl ?_
  refine g_callVr (st' := fun u1 => [.int u1]) K hR [.int p0, .int 5] [] 1 rfl rfl (c_X6_get X.2.1 (gxD X) cy sd a1 a2 12 720 dN p0 5 hw) gX0_materialOf_X6_get rfl yok_X6_get rfl rfl (by decide) rfl (Nat.le_of_ble_eq_true rfl) dX0_materialOf_6 [1, 2] rfl (by decide) (fun _ => rfl) ⟨rfl, rfl⟩ (fun u1 hw => ?_)
  exact g_zret K E Er u1 hw rfl rfl rfl (Nat.le_refl _) (Nat.le_refl _) dX0_materialOf_9

def wp_X0_isInStock (dN : XRow) (p0 : Int32) (post : Bool → Prop) : Prop := wp_X6_get 12 720 dN p0 10 (fun u1 : Int32 => (u1 = 0 → (post true)) ∧ (¬ u1 = 0 → (post false)))
theorem in_X0_isInStock_X0 : ∀ w ∈ u_ws RX0 TX0 3, w ∈ wsX0_isInStock := by decide +kernel
set_option maxRecDepth 100000 in
set_option maxHeartbeats 4000000 in
theorem c_X0_isInStock (l : Launch) (D : va_G) (cy : Nat → ClassId) (sd : xSd) (a0 a1 a2 a3 a4 : Nat) (dN : XRow) (dBc : Int32) (dO : XRow) (p0 : Int32) {post : Bool → Prop} (hw : wp_X0_isInStock dN p0 post) : Ctr l D (xTys cy) sd yX0_isInStock wsX0_isInStock ({ frames := 1, cells := 0, slots := 0, locals := 23 } : Room) [.ref a0, .int p0] (fun u : Bool => some (.int (bI u))) [(a0, .inr (2, [.ref a1, .ref a3, .int dBc])), (a1, .inr (7, [.int 12, .ref a2])), (a2, .inl (cy 0, 720, .inl dN)), (a3, .inr (7, [.int 60, .ref a4])), (a4, .inl (cy 0, 60, .inl dO))] (fun _ => [(a0, .inr (2, [.ref a1, .ref a3, .int dBc])), (a1, .inr (7, [.int 12, .ref a2])), (a2, .inl (cy 0, 720, .inl dN)), (a3, .inr (7, [.int 60, .ref a4])), (a4, .inl (cy 0, 60, .inl dO))]) post := by
  refine Ctr.of (cc := cX0_isInStock) (maxL := 2) (ret := (some .boolean)) (lv0 := [(0, .ref a0), (1, .int p0)]) (by decide) rfl (Nat.le_of_ble_eq_true rfl) rfl ?_
  intro X El hR Er Enm ED E En K
  have K : Cx X cX0_isInStock RX0 wsX0_isInStock (xTys cy) sd := K
  have E : X.2.2.2.2.2.2.2.2.2.2.1 = xMQ X (fun u : Bool => some (.int (bI u))) post (fun _ => [(a0, .inr (2, [.ref a1, .ref a3, .int dBc])), (a1, .inr (7, [.int 12, .ref a2])), (a2, .inl (cy 0, 720, .inl dN)), (a3, .inr (7, [.int 60, .ref a4])), (a4, .inl (cy 0, 60, .inl dO))]) 0 0 := E
  unfold wp_X0_isInStock at hw
  refine g_aload_n K 0 dX0_isInStock_0 rfl ?_
  refine g_get K (C := RX0) (T := TX0) (N := 3) 0 0 in_X0_isInStock_X0 (by decide +kernel) rfl rfl (by decide) rfl dX0_isInStock_1 ?_
  refine g_iload_n K 1 dX0_isInStock_4 rfl ?_
  refine g_bipush (v := 10) K dX0_isInStock_5 rfl ?_
  refine g_callVr (st' := fun u1 => [.int u1]) K hR [.int p0, .int 10] [] 1 rfl rfl (c_X6_get X.2.1 (gxD X) cy sd a1 a2 12 720 dN p0 10 hw) gX0_isInStock_X6_get rfl yok_X6_get rfl rfl (by decide) rfl (Nat.le_of_ble_eq_true rfl) dX0_isInStock_7 [1, 2] rfl (by decide) (fun _ => rfl) ⟨rfl, rfl⟩ (fun u1 hw => ?_)
  refine g_if_ne (tgt := 17) K dX0_isInStock_10 (by decide) (fun hc => ?_) (fun hc => ?_)
  · replace hw := hw.2 hc
    refine g_iconst (v := 0) K dX0_isInStock_17 rfl ?_
    exact g_zret K E Er false hw rfl rfl rfl (Nat.le_refl _) (Nat.le_refl _) dX0_isInStock_18
  · replace hw := hw.1 hc
    refine g_iconst (v := 1) K dX0_isInStock_13 rfl ?_
    refine g_goto (tgt := 18) K dX0_isInStock_14 (by decide) ?_
    exact g_zret K E Er true hw rfl rfl rfl (Nat.le_refl _) (Nat.le_refl _) dX0_isInStock_18

def wp_X0_kilosIn_L4 (dN : XRow) (dBc : Int32) (p0 : Int32) (k4_49 : Int32 → Int32 → Prop) : Nat → Int32 → Int32 → Prop
  | 0, _, _ => False
  | fu + 1, v1, v2 => (dBc ≤ v1 → (k4_49 v1 v2)) ∧ (¬ dBc ≤ v1 → (wp_X6_get 12 720 dN v1 10 (fun u3 : Int32 => (u3 = p0 → (wp_X6_get 12 720 dN v1 6 (fun u6 : Int32 => ∀ x7 : Int32, x7 = v2 + u6 → (∀ x8 : Int32, x8 = v1 + 1 → (wp_X0_kilosIn_L4 dN dBc p0 k4_49 fu x8 x7))))) ∧ (¬ u3 = p0 → (∀ x4 : Int32, x4 = v2 + 0 → (∀ x5 : Int32, x5 = v1 + 1 → (wp_X0_kilosIn_L4 dN dBc p0 k4_49 fu x5 x4)))))))
def wp_X0_kilosIn (dN : XRow) (dBc : Int32) (p0 : Int32) (post : Int32 → Prop) : Prop := ∃ fl, wp_X0_kilosIn_L4 dN dBc p0 (fun (v9 : Int32) (v10 : Int32) => post v10) fl 0 0
theorem in_X0_kilosIn_X0 : ∀ w ∈ u_ws RX0 TX0 3, w ∈ wsX0_kilosIn := by decide +kernel
set_option maxRecDepth 100000 in
set_option maxHeartbeats 4000000 in
theorem c_X0_kilosIn (l : Launch) (D : va_G) (cy : Nat → ClassId) (sd : xSd) (a0 a1 a2 a3 a4 : Nat) (dN : XRow) (dBc : Int32) (dO : XRow) (p0 : Int32) {post : Int32 → Prop} (hw : wp_X0_kilosIn dN dBc p0 post) : Ctr l D (xTys cy) sd yX0_kilosIn wsX0_kilosIn ({ frames := 1, cells := 0, slots := 0, locals := 23 } : Room) [.ref a0, .int p0] (fun u : Int32 => some (.int u)) [(a0, .inr (2, [.ref a1, .ref a3, .int dBc])), (a1, .inr (7, [.int 12, .ref a2])), (a2, .inl (cy 0, 720, .inl dN)), (a3, .inr (7, [.int 60, .ref a4])), (a4, .inl (cy 0, 60, .inl dO))] (fun _ => [(a0, .inr (2, [.ref a1, .ref a3, .int dBc])), (a1, .inr (7, [.int 12, .ref a2])), (a2, .inl (cy 0, 720, .inl dN)), (a3, .inr (7, [.int 60, .ref a4])), (a4, .inl (cy 0, 60, .inl dO))]) post := by
  refine Ctr.of (cc := cX0_kilosIn) (maxL := 4) (ret := (some .int)) (lv0 := [(0, .ref a0), (1, .int p0)]) (by decide) rfl (Nat.le_of_ble_eq_true rfl) rfl ?_
  intro X El hR Er Enm ED E En K
  have K : Cx X cX0_kilosIn RX0 wsX0_kilosIn (xTys cy) sd := K
  have E : X.2.2.2.2.2.2.2.2.2.2.1 = xMQ X (fun u : Int32 => some (.int u)) post (fun _ => [(a0, .inr (2, [.ref a1, .ref a3, .int dBc])), (a1, .inr (7, [.int 12, .ref a2])), (a2, .inl (cy 0, 720, .inl dN)), (a3, .inr (7, [.int 60, .ref a4])), (a4, .inl (cy 0, 60, .inl dO))]) 0 0 := E
  unfold wp_X0_kilosIn at hw
  refine g_iconst (v := 0) K dX0_kilosIn_0 rfl ?_
  refine g_istore_n (lv' := [(2, .int 0), (0, .ref a0), (1, .int p0)]) K dX0_kilosIn_1 rfl (by rw [En]; decide) rfl ?_
  refine g_iconst (v := 0) K dX0_kilosIn_2 rfl ?_
  refine g_istore_n (lv' := [(3, .int 0), (2, .int 0), (0, .ref a0), (1, .int p0)]) K dX0_kilosIn_3 rfl (by rw [En]; decide) rfl ?_
  obtain ⟨fl, hw⟩ := hw
  have key : ∀ (k4_49 : Int32 → Int32 → Prop), (∀ (v1 : Int32) (v2 : Int32), k4_49 v1 v2 → Gx X 0 0 [(a0, .inr (2, [.ref a1, .ref a3, .int dBc])), (a1, .inr (7, [.int 12, .ref a2])), (a2, .inl (cy 0, 720, .inl dN)), (a3, .inr (7, [.int 60, .ref a4])), (a4, .inl (cy 0, 60, .inl dO))] [(3, .int v1), (2, .int v2), (0, .ref a0), (1, .int p0)] 49 []) → ∀ (n : Nat) (v1 : Int32) (v2 : Int32), wp_X0_kilosIn_L4 dN dBc p0 k4_49 n v1 v2 → Gx X 0 0 [(a0, .inr (2, [.ref a1, .ref a3, .int dBc])), (a1, .inr (7, [.int 12, .ref a2])), (a2, .inl (cy 0, 720, .inl dN)), (a3, .inr (7, [.int 60, .ref a4])), (a4, .inl (cy 0, 60, .inl dO))] [(3, .int v1), (2, .int v2), (0, .ref a0), (1, .int p0)] 4 [] := by
    intro k4_49 hx49 n
    induction n with
    | zero => intro v1 v2 hw; exact hw.elim
    | succ n ih =>
      intro v1 v2 hw
      refine g_iload_n K 0 dX0_kilosIn_4 rfl ?_
      refine g_aload_n K 2 dX0_kilosIn_5 rfl ?_
      refine g_get K (C := RX0) (T := TX0) (N := 3) 0 2 in_X0_kilosIn_X0 (by decide +kernel) rfl rfl (by decide) rfl dX0_kilosIn_6 ?_
      refine g_icmp_ge (tgt := 49) K dX0_kilosIn_9 (by decide) (fun hc => ?_) (fun hc => ?_)
      · replace hw := hw.1 hc
        exact hx49 _ _ hw
      · replace hw := hw.2 hc
        refine g_iload_n K 1 dX0_kilosIn_12 rfl ?_
        refine g_aload_n K 2 dX0_kilosIn_13 rfl ?_
        refine g_get K (C := RX0) (T := TX0) (N := 3) 0 0 in_X0_kilosIn_X0 (by decide +kernel) rfl rfl (by decide) rfl dX0_kilosIn_14 ?_
        refine g_iload_n K 0 dX0_kilosIn_17 rfl ?_
        refine g_bipush (v := 10) K dX0_kilosIn_18 rfl ?_
        refine g_callVr (st' := fun u3 => [.int u3, .int v2]) K hR [.int v1, .int 10] [.int v2] 1 rfl rfl (c_X6_get X.2.1 (gxD X) cy sd a1 a2 12 720 dN v1 10 hw) gX0_kilosIn_X6_get rfl yok_X6_get rfl rfl (by decide) rfl (Nat.le_of_ble_eq_true rfl) dX0_kilosIn_20 [1, 2] rfl (by decide) (fun _ => rfl) ⟨rfl, rfl⟩ (fun u3 hw => ?_)
        refine g_iload_n K 3 dX0_kilosIn_23 rfl ?_
        refine g_icmp_ne (tgt := 40) K dX0_kilosIn_24 (by decide) (fun hc => ?_) (fun hc => ?_)
        · replace hw := hw.2 hc
          refine g_iconst (v := 0) K dX0_kilosIn_40 rfl ?_
          refine g_iadd K dX0_kilosIn_41 ?_
          refine g_topi (fun x4 ex4 => ?_)
          replace hw := hw x4 ex4
          refine g_istore_n (lv' := [(2, .int x4), (3, .int v1), (0, .ref a0), (1, .int p0)]) K dX0_kilosIn_42 rfl (by rw [En]; decide) rfl ?_
          obtain ⟨x5, ex5⟩ : ∃ z : Int32, z = v1 + 1 := ⟨_, rfl⟩
          replace hw := hw x5 ex5
          refine g_iinc (v := x5) (lv' := [(3, .int x5), (2, .int x4), (0, .ref a0), (1, .int p0)]) K 1 dX0_kilosIn_43 rfl (by rw [ex5]; rfl) (by rw [En]; decide) rfl ?_
          refine g_goto (tgt := 4) K dX0_kilosIn_46 (by decide) ?_
          exact ih _ _ hw
        · replace hw := hw.1 hc
          refine g_aload_n K 2 dX0_kilosIn_27 rfl ?_
          refine g_get K (C := RX0) (T := TX0) (N := 3) 0 0 in_X0_kilosIn_X0 (by decide +kernel) rfl rfl (by decide) rfl dX0_kilosIn_28 ?_
          refine g_iload_n K 0 dX0_kilosIn_31 rfl ?_
          refine g_bipush (v := 6) K dX0_kilosIn_32 rfl ?_
          refine g_callVr (st' := fun u6 => [.int u6, .int v2]) K hR [.int v1, .int 6] [.int v2] 1 rfl rfl (c_X6_get X.2.1 (gxD X) cy sd a1 a2 12 720 dN v1 6 hw) gX0_kilosIn_X6_get rfl yok_X6_get rfl rfl (by decide) rfl (Nat.le_of_ble_eq_true rfl) dX0_kilosIn_34 [1, 2] rfl (by decide) (fun _ => rfl) ⟨rfl, rfl⟩ (fun u6 hw => ?_)
          refine g_goto (tgt := 41) K dX0_kilosIn_37 (by decide) ?_
          refine g_iadd K dX0_kilosIn_41 ?_
          refine g_topi (fun x7 ex7 => ?_)
          replace hw := hw x7 ex7
          refine g_istore_n (lv' := [(2, .int x7), (3, .int v1), (0, .ref a0), (1, .int p0)]) K dX0_kilosIn_42 rfl (by rw [En]; decide) rfl ?_
          obtain ⟨x8, ex8⟩ : ∃ z : Int32, z = v1 + 1 := ⟨_, rfl⟩
          replace hw := hw x8 ex8
          refine g_iinc (v := x8) (lv' := [(3, .int x8), (2, .int x7), (0, .ref a0), (1, .int p0)]) K 1 dX0_kilosIn_43 rfl (by rw [ex8]; rfl) (by rw [En]; decide) rfl ?_
          refine g_goto (tgt := 4) K dX0_kilosIn_46 (by decide) ?_
          exact ih _ _ hw
  refine key _ (fun v9 v10 hw => ?_) fl _ _ hw
  refine g_iload_n K 1 dX0_kilosIn_49 rfl ?_
  exact g_zret K E Er v10 hw rfl rfl rfl (Nat.le_refl _) (Nat.le_refl _) dX0_kilosIn_50

def wp_X0_stockOf_L5 (dN : XRow) (dBc : Int32) (p0 : Int32) (p1 : Int32) (k5_84 : Int32 → Int32 → Prop) : Nat → Int32 → Int32 → Prop
  | 0, _, _ => False
  | fu + 1, v1, v2 => (dBc ≤ v1 → (k5_84 v1 v2)) ∧ (¬ dBc ≤ v1 → (wp_X0_isInStock dN v1 (fun u3 : Bool => (u3 = true → (wp_X0_materialOf dN v1 (fun u6 : Int32 => (u6 = p0 → (wp_X6_get 12 720 dN v1 9 (fun u9 : Int32 => (p1 < u9 → (∀ x10 : Int32, x10 = v2 + 0 → (∀ x11 : Int32, x11 = v1 + 1 → (wp_X0_stockOf_L5 dN dBc p0 p1 k5_84 fu x11 x10)))) ∧ (¬ p1 < u9 → (wp_X6_get 12 720 dN v1 6 (fun u12 : Int32 => ∀ x13 : Int32, x13 = v2 + u12 → (∀ x14 : Int32, x14 = v1 + 1 → (wp_X0_stockOf_L5 dN dBc p0 p1 k5_84 fu x14 x13)))))))) ∧ (¬ u6 = p0 → (∀ x7 : Int32, x7 = v2 + 0 → (∀ x8 : Int32, x8 = v1 + 1 → (wp_X0_stockOf_L5 dN dBc p0 p1 k5_84 fu x8 x7))))))) ∧ (u3 = false → (∀ x4 : Int32, x4 = v2 + 0 → (∀ x5 : Int32, x5 = v1 + 1 → (wp_X0_stockOf_L5 dN dBc p0 p1 k5_84 fu x5 x4)))))))
def wp_X0_stockOf (dN : XRow) (dBc : Int32) (p0 : Int32) (p1 : Int32) (post : Int32 → Prop) : Prop := ∃ fl, wp_X0_stockOf_L5 dN dBc p0 p1 (fun (v15 : Int32) (v16 : Int32) => post v16) fl 0 0
theorem in_X0_stockOf_X0 : ∀ w ∈ u_ws RX0 TX0 3, w ∈ wsX0_stockOf := by decide +kernel
set_option maxRecDepth 100000 in
set_option maxHeartbeats 4000000 in
theorem c_X0_stockOf (l : Launch) (D : va_G) (cy : Nat → ClassId) (sd : xSd) (a0 a1 a2 a3 a4 : Nat) (dN : XRow) (dBc : Int32) (dO : XRow) (p0 : Int32) (p1 : Int32) {post : Int32 → Prop} (hw : wp_X0_stockOf dN dBc p0 p1 post) : Ctr l D (xTys cy) sd yX0_stockOf wsX0_stockOf ({ frames := 2, cells := 0, slots := 0, locals := 44 } : Room) [.ref a0, .int p0, .int p1] (fun u : Int32 => some (.int u)) [(a0, .inr (2, [.ref a1, .ref a3, .int dBc])), (a1, .inr (7, [.int 12, .ref a2])), (a2, .inl (cy 0, 720, .inl dN)), (a3, .inr (7, [.int 60, .ref a4])), (a4, .inl (cy 0, 60, .inl dO))] (fun _ => [(a0, .inr (2, [.ref a1, .ref a3, .int dBc])), (a1, .inr (7, [.int 12, .ref a2])), (a2, .inl (cy 0, 720, .inl dN)), (a3, .inr (7, [.int 60, .ref a4])), (a4, .inl (cy 0, 60, .inl dO))]) post := by
  refine Ctr.of (cc := cX0_stockOf) (maxL := 6) (ret := (some .int)) (lv0 := [(0, .ref a0), (1, .int p0), (2, .int p1)]) (by decide) rfl (Nat.le_of_ble_eq_true rfl) rfl ?_
  intro X El hR Er Enm ED E En K
  have K : Cx X cX0_stockOf RX0 wsX0_stockOf (xTys cy) sd := K
  have E : X.2.2.2.2.2.2.2.2.2.2.1 = xMQ X (fun u : Int32 => some (.int u)) post (fun _ => [(a0, .inr (2, [.ref a1, .ref a3, .int dBc])), (a1, .inr (7, [.int 12, .ref a2])), (a2, .inl (cy 0, 720, .inl dN)), (a3, .inr (7, [.int 60, .ref a4])), (a4, .inl (cy 0, 60, .inl dO))]) 0 0 := E
  unfold wp_X0_stockOf at hw
  refine g_iconst (v := 0) K dX0_stockOf_0 rfl ?_
  refine g_istore_n (lv' := [(3, .int 0), (0, .ref a0), (1, .int p0), (2, .int p1)]) K dX0_stockOf_1 rfl (by rw [En]; decide) rfl ?_
  refine g_iconst (v := 0) K dX0_stockOf_2 rfl ?_
  refine g_istore (lv' := [(4, .int 0), (3, .int 0), (0, .ref a0), (1, .int p0), (2, .int p1)]) K dX0_stockOf_3 (by rw [En]; decide) rfl ?_
  obtain ⟨fl, hw⟩ := hw
  have key : ∀ (k5_84 : Int32 → Int32 → Prop), (∀ (v1 : Int32) (v2 : Int32), k5_84 v1 v2 → Gx X 0 0 [(a0, .inr (2, [.ref a1, .ref a3, .int dBc])), (a1, .inr (7, [.int 12, .ref a2])), (a2, .inl (cy 0, 720, .inl dN)), (a3, .inr (7, [.int 60, .ref a4])), (a4, .inl (cy 0, 60, .inl dO))] [(4, .int v1), (3, .int v2), (0, .ref a0), (1, .int p0), (2, .int p1)] 84 []) → ∀ (n : Nat) (v1 : Int32) (v2 : Int32), wp_X0_stockOf_L5 dN dBc p0 p1 k5_84 n v1 v2 → Gx X 0 0 [(a0, .inr (2, [.ref a1, .ref a3, .int dBc])), (a1, .inr (7, [.int 12, .ref a2])), (a2, .inl (cy 0, 720, .inl dN)), (a3, .inr (7, [.int 60, .ref a4])), (a4, .inl (cy 0, 60, .inl dO))] [(4, .int v1), (3, .int v2), (0, .ref a0), (1, .int p0), (2, .int p1)] 5 [] := by
    intro k5_84 hx84 n
    induction n with
    | zero => intro v1 v2 hw; exact hw.elim
    | succ n ih =>
      intro v1 v2 hw
      refine g_iload K 0 dX0_stockOf_5 rfl ?_
      refine g_aload_n K 2 dX0_stockOf_7 rfl ?_
      refine g_get K (C := RX0) (T := TX0) (N := 3) 0 2 in_X0_stockOf_X0 (by decide +kernel) rfl rfl (by decide) rfl dX0_stockOf_8 ?_
      refine g_icmp_ge (tgt := 84) K dX0_stockOf_11 (by decide) (fun hc => ?_) (fun hc => ?_)
      · replace hw := hw.1 hc
        exact hx84 _ _ hw
      · replace hw := hw.2 hc
        refine g_aload_n K 2 dX0_stockOf_14 rfl ?_
        refine g_iload K 0 dX0_stockOf_15 rfl ?_
        refine g_callVr (st' := fun u3 => [.int (bI u3)]) K hR [.int v1] [] 0 rfl rfl (c_X0_isInStock X.2.1 (gxD X) cy sd a0 a1 a2 a3 a4 dN dBc dO v1 hw) gX0_stockOf_X0_isInStock rfl yok_X0_isInStock rfl rfl (by decide) rfl (Nat.le_of_ble_eq_true rfl) dX0_stockOf_17 [0, 1, 2, 3, 4] rfl (by decide) (fun _ => rfl) ⟨rfl, rfl⟩ (fun u3 hw => ?_)
        refine g_ifb_eq (tgt := 52) K dX0_stockOf_20 (by decide) (fun hc => ?_) (fun hc => ?_)
        · replace hw := hw.2 hc
          refine g_iconst (v := 0) K dX0_stockOf_52 rfl ?_
          refine g_istore (lv' := [(5, .int 0), (4, .int v1), (3, .int v2), (0, .ref a0), (1, .int p0), (2, .int p1)]) K dX0_stockOf_53 (by rw [En]; decide) rfl ?_
          refine g_iload_n K 2 dX0_stockOf_55 rfl ?_
          refine g_iload K 0 dX0_stockOf_56 rfl ?_
          refine g_if_eq (tgt := 75) K dX0_stockOf_58 (by decide) (fun _ => ?_) (fun hc => absurd (by decide) hc)
          refine g_iconst (v := 0) K dX0_stockOf_75 rfl ?_
          refine g_iadd K dX0_stockOf_76 ?_
          refine g_topi (fun x4 ex4 => ?_)
          replace hw := hw x4 ex4
          refine g_istore_n (lv' := [(3, .int x4), (5, .int 0), (4, .int v1), (0, .ref a0), (1, .int p0), (2, .int p1)]) K dX0_stockOf_77 rfl (by rw [En]; decide) rfl ?_
          obtain ⟨x5, ex5⟩ : ∃ z : Int32, z = v1 + 1 := ⟨_, rfl⟩
          replace hw := hw x5 ex5
          refine g_iinc (v := x5) (lv' := [(4, .int x5), (3, .int x4), (5, .int 0), (0, .ref a0), (1, .int p0), (2, .int p1)]) K 2 dX0_stockOf_78 rfl (by rw [ex5]; rfl) (by rw [En]; decide) rfl ?_
          refine g_goto (tgt := 5) K dX0_stockOf_81 (by decide) ?_
          refine gx_locals [0, 1, 3, 4, 5] rfl ?_
          exact ih _ _ hw
        · replace hw := hw.1 hc
          refine g_aload_n K 2 dX0_stockOf_23 rfl ?_
          refine g_iload K 0 dX0_stockOf_24 rfl ?_
          refine g_callVr (st' := fun u6 => [.int u6]) K hR [.int v1] [] 0 rfl rfl (c_X0_materialOf X.2.1 (gxD X) cy sd a0 a1 a2 a3 a4 dN dBc dO v1 hw) gX0_stockOf_X0_materialOf rfl yok_X0_materialOf rfl rfl (by decide) rfl (Nat.le_of_ble_eq_true rfl) dX0_stockOf_26 [0, 1, 2, 3, 4] rfl (by decide) (fun _ => rfl) ⟨rfl, rfl⟩ (fun u6 hw => ?_)
          refine g_iload_n K 3 dX0_stockOf_29 rfl ?_
          refine g_icmp_ne (tgt := 52) K dX0_stockOf_30 (by decide) (fun hc => ?_) (fun hc => ?_)
          · replace hw := hw.2 hc
            refine g_iconst (v := 0) K dX0_stockOf_52 rfl ?_
            refine g_istore (lv' := [(5, .int 0), (4, .int v1), (3, .int v2), (0, .ref a0), (1, .int p0), (2, .int p1)]) K dX0_stockOf_53 (by rw [En]; decide) rfl ?_
            refine g_iload_n K 2 dX0_stockOf_55 rfl ?_
            refine g_iload K 0 dX0_stockOf_56 rfl ?_
            refine g_if_eq (tgt := 75) K dX0_stockOf_58 (by decide) (fun _ => ?_) (fun hc => absurd (by decide) hc)
            refine g_iconst (v := 0) K dX0_stockOf_75 rfl ?_
            refine g_iadd K dX0_stockOf_76 ?_
            refine g_topi (fun x7 ex7 => ?_)
            replace hw := hw x7 ex7
            refine g_istore_n (lv' := [(3, .int x7), (5, .int 0), (4, .int v1), (0, .ref a0), (1, .int p0), (2, .int p1)]) K dX0_stockOf_77 rfl (by rw [En]; decide) rfl ?_
            obtain ⟨x8, ex8⟩ : ∃ z : Int32, z = v1 + 1 := ⟨_, rfl⟩
            replace hw := hw x8 ex8
            refine g_iinc (v := x8) (lv' := [(4, .int x8), (3, .int x7), (5, .int 0), (0, .ref a0), (1, .int p0), (2, .int p1)]) K 2 dX0_stockOf_78 rfl (by rw [ex8]; rfl) (by rw [En]; decide) rfl ?_
            refine g_goto (tgt := 5) K dX0_stockOf_81 (by decide) ?_
            refine gx_locals [0, 1, 3, 4, 5] rfl ?_
            exact ih _ _ hw
          · replace hw := hw.1 hc
            refine g_aload_n K 2 dX0_stockOf_33 rfl ?_
            refine g_get K (C := RX0) (T := TX0) (N := 3) 0 0 in_X0_stockOf_X0 (by decide +kernel) rfl rfl (by decide) rfl dX0_stockOf_34 ?_
            refine g_iload K 0 dX0_stockOf_37 rfl ?_
            refine g_bipush (v := 9) K dX0_stockOf_39 rfl ?_
            refine g_callVr (st' := fun u9 => [.int u9]) K hR [.int v1, .int 9] [] 1 rfl rfl (c_X6_get X.2.1 (gxD X) cy sd a1 a2 12 720 dN v1 9 hw) gX0_stockOf_X6_get rfl yok_X6_get rfl rfl (by decide) rfl (Nat.le_of_ble_eq_true rfl) dX0_stockOf_41 [1, 2] rfl (by decide) (fun _ => rfl) ⟨rfl, rfl⟩ (fun u9 hw => ?_)
            refine g_iload_n K 4 dX0_stockOf_44 rfl ?_
            refine g_icmp_gt (tgt := 52) K dX0_stockOf_45 (by decide) (fun hc => ?_) (fun hc => ?_)
            · replace hw := hw.1 hc
              refine g_iconst (v := 0) K dX0_stockOf_52 rfl ?_
              refine g_istore (lv' := [(5, .int 0), (4, .int v1), (3, .int v2), (0, .ref a0), (1, .int p0), (2, .int p1)]) K dX0_stockOf_53 (by rw [En]; decide) rfl ?_
              refine g_iload_n K 2 dX0_stockOf_55 rfl ?_
              refine g_iload K 0 dX0_stockOf_56 rfl ?_
              refine g_if_eq (tgt := 75) K dX0_stockOf_58 (by decide) (fun _ => ?_) (fun hc => absurd (by decide) hc)
              refine g_iconst (v := 0) K dX0_stockOf_75 rfl ?_
              refine g_iadd K dX0_stockOf_76 ?_
              refine g_topi (fun x10 ex10 => ?_)
              replace hw := hw x10 ex10
              refine g_istore_n (lv' := [(3, .int x10), (5, .int 0), (4, .int v1), (0, .ref a0), (1, .int p0), (2, .int p1)]) K dX0_stockOf_77 rfl (by rw [En]; decide) rfl ?_
              obtain ⟨x11, ex11⟩ : ∃ z : Int32, z = v1 + 1 := ⟨_, rfl⟩
              replace hw := hw x11 ex11
              refine g_iinc (v := x11) (lv' := [(4, .int x11), (3, .int x10), (5, .int 0), (0, .ref a0), (1, .int p0), (2, .int p1)]) K 2 dX0_stockOf_78 rfl (by rw [ex11]; rfl) (by rw [En]; decide) rfl ?_
              refine g_goto (tgt := 5) K dX0_stockOf_81 (by decide) ?_
              refine gx_locals [0, 1, 3, 4, 5] rfl ?_
              exact ih _ _ hw
            · replace hw := hw.2 hc
              refine g_iconst (v := 1) K dX0_stockOf_48 rfl ?_
              refine g_goto (tgt := 53) K dX0_stockOf_49 (by decide) ?_
              refine g_istore (lv' := [(5, .int 1), (4, .int v1), (3, .int v2), (0, .ref a0), (1, .int p0), (2, .int p1)]) K dX0_stockOf_53 (by rw [En]; decide) rfl ?_
              refine g_iload_n K 2 dX0_stockOf_55 rfl ?_
              refine g_iload K 0 dX0_stockOf_56 rfl ?_
              refine g_if_eq (tgt := 75) K dX0_stockOf_58 (by decide) (fun hc => absurd hc (by decide)) (fun _ => ?_)
              refine g_aload_n K 3 dX0_stockOf_61 rfl ?_
              refine g_get K (C := RX0) (T := TX0) (N := 3) 0 0 in_X0_stockOf_X0 (by decide +kernel) rfl rfl (by decide) rfl dX0_stockOf_62 ?_
              refine g_iload K 1 dX0_stockOf_65 rfl ?_
              refine g_bipush (v := 6) K dX0_stockOf_67 rfl ?_
              refine g_callVr (st' := fun u12 => [.int u12, .int v2]) K hR [.int v1, .int 6] [.int v2] 1 rfl rfl (c_X6_get X.2.1 (gxD X) cy sd a1 a2 12 720 dN v1 6 hw) gX0_stockOf_X6_get rfl yok_X6_get rfl rfl (by decide) rfl (Nat.le_of_ble_eq_true rfl) dX0_stockOf_69 [1, 2] rfl (by decide) (fun _ => rfl) ⟨rfl, rfl⟩ (fun u12 hw => ?_)
              refine g_goto (tgt := 76) K dX0_stockOf_72 (by decide) ?_
              refine g_iadd K dX0_stockOf_76 ?_
              refine g_topi (fun x13 ex13 => ?_)
              replace hw := hw x13 ex13
              refine g_istore_n (lv' := [(3, .int x13), (5, .int 1), (4, .int v1), (0, .ref a0), (1, .int p0), (2, .int p1)]) K dX0_stockOf_77 rfl (by rw [En]; decide) rfl ?_
              obtain ⟨x14, ex14⟩ : ∃ z : Int32, z = v1 + 1 := ⟨_, rfl⟩
              replace hw := hw x14 ex14
              refine g_iinc (v := x14) (lv' := [(4, .int x14), (3, .int x13), (5, .int 1), (0, .ref a0), (1, .int p0), (2, .int p1)]) K 2 dX0_stockOf_78 rfl (by rw [ex14]; rfl) (by rw [En]; decide) rfl ?_
              refine g_goto (tgt := 5) K dX0_stockOf_81 (by decide) ?_
              refine gx_locals [0, 1, 3, 4, 5] rfl ?_
              exact ih _ _ hw
  refine key _ (fun v15 v16 hw => ?_) fl _ _ hw
  refine g_iload_n K 1 dX0_stockOf_84 rfl ?_
  exact g_zret K E Er v16 hw rfl rfl rfl (Nat.le_refl _) (Nat.le_refl _) dX0_stockOf_85

def wp_X0_unloopedKilos_L4 (dN : XRow) (dBc : Int32) (p0 : Bool) (k4_57 : Int32 → Int32 → Prop) : Nat → Int32 → Int32 → Prop
  | 0, _, _ => False
  | fu + 1, v1, v2 => (dBc ≤ v1 → (k4_57 v1 v2)) ∧ (¬ dBc ≤ v1 → (wp_X6_get 12 720 dN v1 10 (fun u3 : Int32 => (u3 = 2 → (∀ x4 : Int32, x4 = v1 + 1 → (wp_X0_unloopedKilos_L4 dN dBc p0 k4_57 fu x4 v2))) ∧ (¬ u3 = 2 → ((p0 = true → (wp_X0_materialOf dN v1 (fun u8 : Int32 => wp_X6_get 12 720 dN v1 u8 (fun u9 : Int32 => ∀ x10 : Int32, x10 = v2 + u9 → (∀ x11 : Int32, x11 = v1 + 1 → (wp_X0_unloopedKilos_L4 dN dBc p0 k4_57 fu x11 x10)))))) ∧ (p0 = false → (wp_X6_get 12 720 dN v1 6 (fun u5 : Int32 => ∀ x6 : Int32, x6 = v2 + u5 → (∀ x7 : Int32, x7 = v1 + 1 → (wp_X0_unloopedKilos_L4 dN dBc p0 k4_57 fu x7 x6))))))))))
def wp_X0_unloopedKilos (dN : XRow) (dBc : Int32) (p0 : Bool) (post : Int32 → Prop) : Prop := ∃ fl, wp_X0_unloopedKilos_L4 dN dBc p0 (fun (v12 : Int32) (v13 : Int32) => post v13) fl 0 0
theorem in_X0_unloopedKilos_X0 : ∀ w ∈ u_ws RX0 TX0 3, w ∈ wsX0_unloopedKilos := by decide +kernel
set_option maxRecDepth 100000 in
set_option maxHeartbeats 4000000 in
theorem c_X0_unloopedKilos (l : Launch) (D : va_G) (cy : Nat → ClassId) (sd : xSd) (a0 a1 a2 a3 a4 : Nat) (dN : XRow) (dBc : Int32) (dO : XRow) (p0 : Bool) {post : Int32 → Prop} (hw : wp_X0_unloopedKilos dN dBc p0 post) : Ctr l D (xTys cy) sd yX0_unloopedKilos wsX0_unloopedKilos ({ frames := 2, cells := 0, slots := 0, locals := 44 } : Room) [.ref a0, .int (bI p0)] (fun u : Int32 => some (.int u)) [(a0, .inr (2, [.ref a1, .ref a3, .int dBc])), (a1, .inr (7, [.int 12, .ref a2])), (a2, .inl (cy 0, 720, .inl dN)), (a3, .inr (7, [.int 60, .ref a4])), (a4, .inl (cy 0, 60, .inl dO))] (fun _ => [(a0, .inr (2, [.ref a1, .ref a3, .int dBc])), (a1, .inr (7, [.int 12, .ref a2])), (a2, .inl (cy 0, 720, .inl dN)), (a3, .inr (7, [.int 60, .ref a4])), (a4, .inl (cy 0, 60, .inl dO))]) post := by
  refine Ctr.of (cc := cX0_unloopedKilos) (maxL := 4) (ret := (some .int)) (lv0 := [(0, .ref a0), (1, .int (bI p0))]) (by decide) rfl (Nat.le_of_ble_eq_true rfl) rfl ?_
  intro X El hR Er Enm ED E En K
  have K : Cx X cX0_unloopedKilos RX0 wsX0_unloopedKilos (xTys cy) sd := K
  have E : X.2.2.2.2.2.2.2.2.2.2.1 = xMQ X (fun u : Int32 => some (.int u)) post (fun _ => [(a0, .inr (2, [.ref a1, .ref a3, .int dBc])), (a1, .inr (7, [.int 12, .ref a2])), (a2, .inl (cy 0, 720, .inl dN)), (a3, .inr (7, [.int 60, .ref a4])), (a4, .inl (cy 0, 60, .inl dO))]) 0 0 := E
  unfold wp_X0_unloopedKilos at hw
  refine g_iconst (v := 0) K dX0_unloopedKilos_0 rfl ?_
  refine g_istore_n (lv' := [(2, .int 0), (0, .ref a0), (1, .int (bI p0))]) K dX0_unloopedKilos_1 rfl (by rw [En]; decide) rfl ?_
  refine g_iconst (v := 0) K dX0_unloopedKilos_2 rfl ?_
  refine g_istore_n (lv' := [(3, .int 0), (2, .int 0), (0, .ref a0), (1, .int (bI p0))]) K dX0_unloopedKilos_3 rfl (by rw [En]; decide) rfl ?_
  obtain ⟨fl, hw⟩ := hw
  have key : ∀ (k4_57 : Int32 → Int32 → Prop), (∀ (v1 : Int32) (v2 : Int32), k4_57 v1 v2 → Gx X 0 0 [(a0, .inr (2, [.ref a1, .ref a3, .int dBc])), (a1, .inr (7, [.int 12, .ref a2])), (a2, .inl (cy 0, 720, .inl dN)), (a3, .inr (7, [.int 60, .ref a4])), (a4, .inl (cy 0, 60, .inl dO))] [(3, .int v1), (2, .int v2), (0, .ref a0), (1, .int (bI p0))] 57 []) → ∀ (n : Nat) (v1 : Int32) (v2 : Int32), wp_X0_unloopedKilos_L4 dN dBc p0 k4_57 n v1 v2 → Gx X 0 0 [(a0, .inr (2, [.ref a1, .ref a3, .int dBc])), (a1, .inr (7, [.int 12, .ref a2])), (a2, .inl (cy 0, 720, .inl dN)), (a3, .inr (7, [.int 60, .ref a4])), (a4, .inl (cy 0, 60, .inl dO))] [(3, .int v1), (2, .int v2), (0, .ref a0), (1, .int (bI p0))] 4 [] := by
    intro k4_57 hx57 n
    induction n with
    | zero => intro v1 v2 hw; exact hw.elim
    | succ n ih =>
      intro v1 v2 hw
      refine g_iload_n K 0 dX0_unloopedKilos_4 rfl ?_
      refine g_aload_n K 2 dX0_unloopedKilos_5 rfl ?_
      refine g_get K (C := RX0) (T := TX0) (N := 3) 0 2 in_X0_unloopedKilos_X0 (by decide +kernel) rfl rfl (by decide) rfl dX0_unloopedKilos_6 ?_
      refine g_icmp_ge (tgt := 57) K dX0_unloopedKilos_9 (by decide) (fun hc => ?_) (fun hc => ?_)
      · replace hw := hw.1 hc
        exact hx57 _ _ hw
      · replace hw := hw.2 hc
        refine g_aload_n K 2 dX0_unloopedKilos_12 rfl ?_
        refine g_get K (C := RX0) (T := TX0) (N := 3) 0 0 in_X0_unloopedKilos_X0 (by decide +kernel) rfl rfl (by decide) rfl dX0_unloopedKilos_13 ?_
        refine g_iload_n K 0 dX0_unloopedKilos_16 rfl ?_
        refine g_bipush (v := 10) K dX0_unloopedKilos_17 rfl ?_
        refine g_callVr (st' := fun u3 => [.int u3]) K hR [.int v1, .int 10] [] 1 rfl rfl (c_X6_get X.2.1 (gxD X) cy sd a1 a2 12 720 dN v1 10 hw) gX0_unloopedKilos_X6_get rfl yok_X6_get rfl rfl (by decide) rfl (Nat.le_of_ble_eq_true rfl) dX0_unloopedKilos_19 [1, 2] rfl (by decide) (fun _ => rfl) ⟨rfl, rfl⟩ (fun u3 hw => ?_)
        refine g_iconst (v := 2) K dX0_unloopedKilos_22 rfl ?_
        refine g_icmp_eq (tgt := 51) K dX0_unloopedKilos_23 (by decide) (fun hc => ?_) (fun hc => ?_)
        · replace hw := hw.1 hc
          obtain ⟨x4, ex4⟩ : ∃ z : Int32, z = v1 + 1 := ⟨_, rfl⟩
          replace hw := hw x4 ex4
          refine g_iinc (v := x4) (lv' := [(3, .int x4), (2, .int v2), (0, .ref a0), (1, .int (bI p0))]) K 0 dX0_unloopedKilos_51 rfl (by rw [ex4]; rfl) (by rw [En]; decide) rfl ?_
          refine g_goto (tgt := 4) K dX0_unloopedKilos_54 (by decide) ?_
          exact ih _ _ hw
        · replace hw := hw.2 hc
          refine g_iload_n K 1 dX0_unloopedKilos_26 rfl ?_
          refine g_aload_n K 2 dX0_unloopedKilos_27 rfl ?_
          refine g_get K (C := RX0) (T := TX0) (N := 3) 0 0 in_X0_unloopedKilos_X0 (by decide +kernel) rfl rfl (by decide) rfl dX0_unloopedKilos_28 ?_
          refine g_iload_n K 0 dX0_unloopedKilos_31 rfl ?_
          refine g_iload_n K 3 dX0_unloopedKilos_32 rfl ?_
          refine g_ifb_eq (tgt := 44) K dX0_unloopedKilos_33 (by decide) (fun hc => ?_) (fun hc => ?_)
          · replace hw := hw.2 hc
            refine g_bipush (v := 6) K dX0_unloopedKilos_44 rfl ?_
            refine g_callVr (st' := fun u5 => [.int u5, .int v2]) K hR [.int v1, .int 6] [.int v2] 1 rfl rfl (c_X6_get X.2.1 (gxD X) cy sd a1 a2 12 720 dN v1 6 hw) gX0_unloopedKilos_X6_get rfl yok_X6_get rfl rfl (by decide) rfl (Nat.le_of_ble_eq_true rfl) dX0_unloopedKilos_46 [1, 2] rfl (by decide) (fun _ => rfl) ⟨rfl, rfl⟩ (fun u5 hw => ?_)
            refine g_iadd K dX0_unloopedKilos_49 ?_
            refine g_topi (fun x6 ex6 => ?_)
            replace hw := hw x6 ex6
            refine g_istore_n (lv' := [(2, .int x6), (3, .int v1), (0, .ref a0), (1, .int (bI p0))]) K dX0_unloopedKilos_50 rfl (by rw [En]; decide) rfl ?_
            obtain ⟨x7, ex7⟩ : ∃ z : Int32, z = v1 + 1 := ⟨_, rfl⟩
            replace hw := hw x7 ex7
            refine g_iinc (v := x7) (lv' := [(3, .int x7), (2, .int x6), (0, .ref a0), (1, .int (bI p0))]) K 1 dX0_unloopedKilos_51 rfl (by rw [ex7]; rfl) (by rw [En]; decide) rfl ?_
            refine g_goto (tgt := 4) K dX0_unloopedKilos_54 (by decide) ?_
            exact ih _ _ hw
          · replace hw := hw.1 hc
            refine g_aload_n K 2 dX0_unloopedKilos_36 rfl ?_
            refine g_iload_n K 0 dX0_unloopedKilos_37 rfl ?_
            refine g_callVr (st' := fun u8 => [.int u8, .int v1, .ref a1, .int v2]) K hR [.int v1] [.int v1, .ref a1, .int v2] 0 rfl rfl (c_X0_materialOf X.2.1 (gxD X) cy sd a0 a1 a2 a3 a4 dN dBc dO v1 hw) gX0_unloopedKilos_X0_materialOf rfl yok_X0_materialOf rfl rfl (by decide) rfl (Nat.le_of_ble_eq_true rfl) dX0_unloopedKilos_38 [0, 1, 2, 3, 4] rfl (by decide) (fun _ => rfl) ⟨rfl, rfl⟩ (fun u8 hw => ?_)
            refine g_goto (tgt := 46) K dX0_unloopedKilos_41 (by decide) ?_
            refine g_callVr (st' := fun u9 => [.int u9, .int v2]) K hR [.int v1, .int u8] [.int v2] 1 rfl rfl (c_X6_get X.2.1 (gxD X) cy sd a1 a2 12 720 dN v1 u8 hw) gX0_unloopedKilos_X6_get rfl yok_X6_get rfl rfl (by decide) rfl (Nat.le_of_ble_eq_true rfl) dX0_unloopedKilos_46 [1, 2] rfl (by decide) (fun _ => rfl) ⟨rfl, rfl⟩ (fun u9 hw => ?_)
            refine g_iadd K dX0_unloopedKilos_49 ?_
            refine g_topi (fun x10 ex10 => ?_)
            replace hw := hw x10 ex10
            refine g_istore_n (lv' := [(2, .int x10), (3, .int v1), (0, .ref a0), (1, .int (bI p0))]) K dX0_unloopedKilos_50 rfl (by rw [En]; decide) rfl ?_
            obtain ⟨x11, ex11⟩ : ∃ z : Int32, z = v1 + 1 := ⟨_, rfl⟩
            replace hw := hw x11 ex11
            refine g_iinc (v := x11) (lv' := [(3, .int x11), (2, .int x10), (0, .ref a0), (1, .int (bI p0))]) K 1 dX0_unloopedKilos_51 rfl (by rw [ex11]; rfl) (by rw [En]; decide) rfl ?_
            refine g_goto (tgt := 4) K dX0_unloopedKilos_54 (by decide) ?_
            exact ih _ _ hw
  refine key _ (fun v12 v13 hw => ?_) fl _ _ hw
  refine g_iload_n K 1 dX0_unloopedKilos_57 rfl ?_
  exact g_zret K E Er v13 hw rfl rfl rfl (Nat.le_refl _) (Nat.le_refl _) dX0_unloopedKilos_58

def wp_X0_atPlace (dO : XRow) (p0 : Int32) (post : Int32 → Prop) : Prop := wp_X6_get 60 60 dO 0 p0 (fun u1 : Int32 => post u1)
theorem in_X0_atPlace_X0 : ∀ w ∈ u_ws RX0 TX0 3, w ∈ wsX0_atPlace := by decide +kernel
set_option maxRecDepth 100000 in
set_option maxHeartbeats 4000000 in
theorem c_X0_atPlace (l : Launch) (D : va_G) (cy : Nat → ClassId) (sd : xSd) (a0 a1 a2 a3 a4 : Nat) (dN : XRow) (dBc : Int32) (dO : XRow) (p0 : Int32) {post : Int32 → Prop} (hw : wp_X0_atPlace dO p0 post) : Ctr l D (xTys cy) sd yX0_atPlace wsX0_atPlace ({ frames := 1, cells := 0, slots := 0, locals := 23 } : Room) [.ref a0, .int p0] (fun u : Int32 => some (.int u)) [(a0, .inr (2, [.ref a1, .ref a3, .int dBc])), (a1, .inr (7, [.int 12, .ref a2])), (a2, .inl (cy 0, 720, .inl dN)), (a3, .inr (7, [.int 60, .ref a4])), (a4, .inl (cy 0, 60, .inl dO))] (fun _ => [(a0, .inr (2, [.ref a1, .ref a3, .int dBc])), (a1, .inr (7, [.int 12, .ref a2])), (a2, .inl (cy 0, 720, .inl dN)), (a3, .inr (7, [.int 60, .ref a4])), (a4, .inl (cy 0, 60, .inl dO))]) post := by
  refine Ctr.of (cc := cX0_atPlace) (maxL := 2) (ret := (some .int)) (lv0 := [(0, .ref a0), (1, .int p0)]) (by decide) rfl (Nat.le_of_ble_eq_true rfl) rfl ?_
  intro X El hR Er Enm ED E En K
  have K : Cx X cX0_atPlace RX0 wsX0_atPlace (xTys cy) sd := K
  have E : X.2.2.2.2.2.2.2.2.2.2.1 = xMQ X (fun u : Int32 => some (.int u)) post (fun _ => [(a0, .inr (2, [.ref a1, .ref a3, .int dBc])), (a1, .inr (7, [.int 12, .ref a2])), (a2, .inl (cy 0, 720, .inl dN)), (a3, .inr (7, [.int 60, .ref a4])), (a4, .inl (cy 0, 60, .inl dO))]) 0 0 := E
  unfold wp_X0_atPlace at hw
  refine g_aload_n K 0 dX0_atPlace_0 rfl ?_
  refine g_get K (C := RX0) (T := TX0) (N := 3) 0 1 in_X0_atPlace_X0 (by decide +kernel) rfl rfl (by decide) rfl dX0_atPlace_1 ?_
  refine g_iconst (v := 0) K dX0_atPlace_4 rfl ?_
  refine g_iload_n K 1 dX0_atPlace_5 rfl ?_
  refine g_callVr (st' := fun u1 => [.int u1]) K hR [.int 0, .int p0] [] 3 rfl rfl (c_X6_get X.2.1 (gxD X) cy sd a3 a4 60 60 dO 0 p0 hw) gX0_atPlace_X6_get rfl yok_X6_get rfl rfl (by decide) rfl (Nat.le_of_ble_eq_true rfl) dX0_atPlace_6 [3, 4] rfl (by decide) (fun _ => rfl) ⟨rfl, rfl⟩ (fun u1 hw => ?_)
  exact g_zret K E Er u1 hw rfl rfl rfl (Nat.le_refl _) (Nat.le_refl _) dX0_atPlace_9

def wp_X0_isAhead (dN : XRow) (p0 : Int32) (p1 : Int32) (post : Bool → Prop) : Prop := wp_X6_get 12 720 dN p0 9 (fun u1 : Int32 => wp_X6_get 12 720 dN p1 9 (fun u2 : Int32 => ∀ x3 : Int32, x3 = u1 - u2 → (wp_X6_get 12 720 dN p0 8 (fun u4 : Int32 => wp_X6_get 12 720 dN p1 8 (fun u5 : Int32 => ∀ x6 : Int32, x6 = u4 - u5 → ((x3 = 0 → ((x6 = 0 → ((p1 ≤ p0 → (post false)) ∧ (¬ p1 ≤ p0 → (post true)))) ∧ (¬ x6 = 0 → ((x6 ≤ 0 → (post false)) ∧ (¬ x6 ≤ 0 → (post true)))))) ∧ (¬ x3 = 0 → ((0 ≤ x3 → (post false)) ∧ (¬ 0 ≤ x3 → (post true))))))))))
theorem in_X0_isAhead_X0 : ∀ w ∈ u_ws RX0 TX0 3, w ∈ wsX0_isAhead := by decide +kernel
set_option maxRecDepth 100000 in
set_option maxHeartbeats 4000000 in
theorem c_X0_isAhead (l : Launch) (D : va_G) (cy : Nat → ClassId) (sd : xSd) (a0 a1 a2 a3 a4 : Nat) (dN : XRow) (dBc : Int32) (dO : XRow) (p0 : Int32) (p1 : Int32) {post : Bool → Prop} (hw : wp_X0_isAhead dN p0 p1 post) : Ctr l D (xTys cy) sd yX0_isAhead wsX0_isAhead ({ frames := 1, cells := 0, slots := 0, locals := 23 } : Room) [.ref a0, .int p0, .int p1] (fun u : Bool => some (.int (bI u))) [(a0, .inr (2, [.ref a1, .ref a3, .int dBc])), (a1, .inr (7, [.int 12, .ref a2])), (a2, .inl (cy 0, 720, .inl dN)), (a3, .inr (7, [.int 60, .ref a4])), (a4, .inl (cy 0, 60, .inl dO))] (fun _ => [(a0, .inr (2, [.ref a1, .ref a3, .int dBc])), (a1, .inr (7, [.int 12, .ref a2])), (a2, .inl (cy 0, 720, .inl dN)), (a3, .inr (7, [.int 60, .ref a4])), (a4, .inl (cy 0, 60, .inl dO))]) post := by
  refine Ctr.of (cc := cX0_isAhead) (maxL := 5) (ret := (some .boolean)) (lv0 := [(0, .ref a0), (1, .int p0), (2, .int p1)]) (by decide) rfl (Nat.le_of_ble_eq_true rfl) rfl ?_
  intro X El hR Er Enm ED E En K
  have K : Cx X cX0_isAhead RX0 wsX0_isAhead (xTys cy) sd := K
  have E : X.2.2.2.2.2.2.2.2.2.2.1 = xMQ X (fun u : Bool => some (.int (bI u))) post (fun _ => [(a0, .inr (2, [.ref a1, .ref a3, .int dBc])), (a1, .inr (7, [.int 12, .ref a2])), (a2, .inl (cy 0, 720, .inl dN)), (a3, .inr (7, [.int 60, .ref a4])), (a4, .inl (cy 0, 60, .inl dO))]) 0 0 := E
  unfold wp_X0_isAhead at hw
  refine g_aload_n K 0 dX0_isAhead_0 rfl ?_
  refine g_get K (C := RX0) (T := TX0) (N := 3) 0 0 in_X0_isAhead_X0 (by decide +kernel) rfl rfl (by decide) rfl dX0_isAhead_1 ?_
  refine g_iload_n K 1 dX0_isAhead_4 rfl ?_
  refine g_bipush (v := 9) K dX0_isAhead_5 rfl ?_
  refine g_callVr (st' := fun u1 => [.int u1]) K hR [.int p0, .int 9] [] 1 rfl rfl (c_X6_get X.2.1 (gxD X) cy sd a1 a2 12 720 dN p0 9 hw) gX0_isAhead_X6_get rfl yok_X6_get rfl rfl (by decide) rfl (Nat.le_of_ble_eq_true rfl) dX0_isAhead_7 [1, 2] rfl (by decide) (fun _ => rfl) ⟨rfl, rfl⟩ (fun u1 hw => ?_)
  refine g_aload_n K 0 dX0_isAhead_10 rfl ?_
  refine g_get K (C := RX0) (T := TX0) (N := 3) 0 0 in_X0_isAhead_X0 (by decide +kernel) rfl rfl (by decide) rfl dX0_isAhead_11 ?_
  refine g_iload_n K 2 dX0_isAhead_14 rfl ?_
  refine g_bipush (v := 9) K dX0_isAhead_15 rfl ?_
  refine g_callVr (st' := fun u2 => [.int u2, .int u1]) K hR [.int p1, .int 9] [.int u1] 1 rfl rfl (c_X6_get X.2.1 (gxD X) cy sd a1 a2 12 720 dN p1 9 hw) gX0_isAhead_X6_get rfl yok_X6_get rfl rfl (by decide) rfl (Nat.le_of_ble_eq_true rfl) dX0_isAhead_17 [1, 2] rfl (by decide) (fun _ => rfl) ⟨rfl, rfl⟩ (fun u2 hw => ?_)
  refine g_isub K dX0_isAhead_20 ?_
  refine g_topi (fun x3 ex3 => ?_)
  replace hw := hw x3 ex3
  refine g_istore_n (lv' := [(3, .int x3), (0, .ref a0), (1, .int p0), (2, .int p1)]) K dX0_isAhead_21 rfl (by rw [En]; decide) rfl ?_
  refine g_aload_n K 1 dX0_isAhead_22 rfl ?_
  refine g_get K (C := RX0) (T := TX0) (N := 3) 0 0 in_X0_isAhead_X0 (by decide +kernel) rfl rfl (by decide) rfl dX0_isAhead_23 ?_
  refine g_iload_n K 2 dX0_isAhead_26 rfl ?_
  refine g_bipush (v := 8) K dX0_isAhead_27 rfl ?_
  refine g_callVr (st' := fun u4 => [.int u4]) K hR [.int p0, .int 8] [] 1 rfl rfl (c_X6_get X.2.1 (gxD X) cy sd a1 a2 12 720 dN p0 8 hw) gX0_isAhead_X6_get rfl yok_X6_get rfl rfl (by decide) rfl (Nat.le_of_ble_eq_true rfl) dX0_isAhead_29 [1, 2] rfl (by decide) (fun _ => rfl) ⟨rfl, rfl⟩ (fun u4 hw => ?_)
  refine g_aload_n K 1 dX0_isAhead_32 rfl ?_
  refine g_get K (C := RX0) (T := TX0) (N := 3) 0 0 in_X0_isAhead_X0 (by decide +kernel) rfl rfl (by decide) rfl dX0_isAhead_33 ?_
  refine g_iload_n K 3 dX0_isAhead_36 rfl ?_
  refine g_bipush (v := 8) K dX0_isAhead_37 rfl ?_
  refine g_callVr (st' := fun u5 => [.int u5, .int u4]) K hR [.int p1, .int 8] [.int u4] 1 rfl rfl (c_X6_get X.2.1 (gxD X) cy sd a1 a2 12 720 dN p1 8 hw) gX0_isAhead_X6_get rfl yok_X6_get rfl rfl (by decide) rfl (Nat.le_of_ble_eq_true rfl) dX0_isAhead_39 [1, 2] rfl (by decide) (fun _ => rfl) ⟨rfl, rfl⟩ (fun u5 hw => ?_)
  refine g_isub K dX0_isAhead_42 ?_
  refine g_topi (fun x6 ex6 => ?_)
  replace hw := hw x6 ex6
  refine g_istore (lv' := [(4, .int x6), (3, .int x3), (0, .ref a0), (1, .int p0), (2, .int p1)]) K dX0_isAhead_43 (by rw [En]; decide) rfl ?_
  refine g_iload_n K 1 dX0_isAhead_45 rfl ?_
  refine g_if_eq (tgt := 59) K dX0_isAhead_46 (by decide) (fun hc => ?_) (fun hc => ?_)
  · replace hw := hw.1 hc
    refine g_iload K 0 dX0_isAhead_59 rfl ?_
    refine g_if_eq (tgt := 77) K dX0_isAhead_61 (by decide) (fun hc => ?_) (fun hc => ?_)
    · replace hw := hw.1 hc
      refine g_iload_n K 3 dX0_isAhead_77 rfl ?_
      refine g_iload_n K 4 dX0_isAhead_78 rfl ?_
      refine g_icmp_ge (tgt := 86) K dX0_isAhead_79 (by decide) (fun hc => ?_) (fun hc => ?_)
      · replace hw := hw.1 hc
        refine g_iconst (v := 0) K dX0_isAhead_86 rfl ?_
        exact g_zret K E Er false hw rfl rfl rfl (Nat.le_refl _) (Nat.le_refl _) dX0_isAhead_87
      · replace hw := hw.2 hc
        refine g_iconst (v := 1) K dX0_isAhead_82 rfl ?_
        refine g_goto (tgt := 87) K dX0_isAhead_83 (by decide) ?_
        exact g_zret K E Er true hw rfl rfl rfl (Nat.le_refl _) (Nat.le_refl _) dX0_isAhead_87
    · replace hw := hw.2 hc
      refine g_iload K 0 dX0_isAhead_64 rfl ?_
      refine g_if_le (tgt := 73) K dX0_isAhead_66 (by decide) (fun hc => ?_) (fun hc => ?_)
      · replace hw := hw.1 hc
        refine g_iconst (v := 0) K dX0_isAhead_73 rfl ?_
        refine g_goto (tgt := 87) K dX0_isAhead_74 (by decide) ?_
        exact g_zret K E Er false hw rfl rfl rfl (Nat.le_refl _) (Nat.le_refl _) dX0_isAhead_87
      · replace hw := hw.2 hc
        refine g_iconst (v := 1) K dX0_isAhead_69 rfl ?_
        refine g_goto (tgt := 87) K dX0_isAhead_70 (by decide) ?_
        exact g_zret K E Er true hw rfl rfl rfl (Nat.le_refl _) (Nat.le_refl _) dX0_isAhead_87
  · replace hw := hw.2 hc
    refine g_iload_n K 1 dX0_isAhead_49 rfl ?_
    refine g_if_ge (tgt := 57) K dX0_isAhead_50 (by decide) (fun hc => ?_) (fun hc => ?_)
    · replace hw := hw.1 hc
      refine g_iconst (v := 0) K dX0_isAhead_57 rfl ?_
      exact g_zret K E Er false hw rfl rfl rfl (Nat.le_refl _) (Nat.le_refl _) dX0_isAhead_58
    · replace hw := hw.2 hc
      refine g_iconst (v := 1) K dX0_isAhead_53 rfl ?_
      refine g_goto (tgt := 58) K dX0_isAhead_54 (by decide) ?_
      exact g_zret K E Er true hw rfl rfl rfl (Nat.le_refl _) (Nat.le_refl _) dX0_isAhead_58

def wp_X0_insert_L2 (dN : XRow) (p0 : Int32) (k2_43 : Int32 → XRow → Prop) : Nat → Int32 → XRow → Prop
  | 0, _, _ => False
  | fu + 1, v1, v2 => (v1 ≤ 0 → (k2_43 v1 v2)) ∧ (¬ v1 ≤ 0 → (wp_X0_atPlace v2 (v1 - 1) (fun u3 : Int32 => wp_X0_isAhead dN p0 u3 (fun u4 : Bool => (u4 = true → (wp_X0_atPlace v2 (v1 - 1) (fun u5 : Int32 => wp_X6_put 60 60 v2 0 v1 u5 (fun u6 : XRow => ∀ x7 : Int32, x7 = v1 + (-1) → (wp_X0_insert_L2 dN p0 k2_43 fu x7 u6))))) ∧ (u4 = false → (k2_43 v1 v2))))))
def wp_X0_insert (dN : XRow) (dO : XRow) (p0 : Int32) (p1 : Int32) (post : XRow → Prop) : Prop := ∃ fl, wp_X0_insert_L2 dN p0 (fun (v8 : Int32) (v9 : XRow) => wp_X6_put 60 60 v9 0 v8 p0 (fun u10 : XRow => post u10)) fl p1 dO
theorem in_X0_insert_X0 : ∀ w ∈ u_ws RX0 TX0 3, w ∈ wsX0_insert := by decide +kernel
set_option maxRecDepth 100000 in
set_option maxHeartbeats 4000000 in
theorem c_X0_insert (l : Launch) (D : va_G) (cy : Nat → ClassId) (sd : xSd) (a0 a1 a2 a3 a4 : Nat) (dN : XRow) (dBc : Int32) (dO : XRow) (p0 : Int32) (p1 : Int32) {post : XRow → Prop} (hw : wp_X0_insert dN dO p0 p1 post) : Ctr l D (xTys cy) sd yX0_insert wsX0_insert ({ frames := 2, cells := 0, slots := 0, locals := 47 } : Room) [.ref a0, .int p0, .int p1] (fun u : XRow => none) [(a0, .inr (2, [.ref a1, .ref a3, .int dBc])), (a1, .inr (7, [.int 12, .ref a2])), (a2, .inl (cy 0, 720, .inl dN)), (a3, .inr (7, [.int 60, .ref a4])), (a4, .inl (cy 0, 60, .inl dO))] (fun u => [(a0, .inr (2, [.ref a1, .ref a3, .int dBc])), (a1, .inr (7, [.int 12, .ref a2])), (a2, .inl (cy 0, 720, .inl dN)), (a3, .inr (7, [.int 60, .ref a4])), (a4, .inl (cy 0, 60, .inl u))]) post := by
  refine Ctr.of (cc := cX0_insert) (maxL := 4) (ret := none) (lv0 := [(0, .ref a0), (1, .int p0), (2, .int p1)]) (by decide) rfl (Nat.le_of_ble_eq_true rfl) rfl ?_
  intro X El hR Er Enm ED E En K
  have K : Cx X cX0_insert RX0 wsX0_insert (xTys cy) sd := K
  have E : X.2.2.2.2.2.2.2.2.2.2.1 = xMQ X (fun u : XRow => none) post (fun u => [(a0, .inr (2, [.ref a1, .ref a3, .int dBc])), (a1, .inr (7, [.int 12, .ref a2])), (a2, .inl (cy 0, 720, .inl dN)), (a3, .inr (7, [.int 60, .ref a4])), (a4, .inl (cy 0, 60, .inl u))]) 0 0 := E
  unfold wp_X0_insert at hw
  refine g_iload_n K 2 dX0_insert_0 rfl ?_
  refine g_istore_n (lv' := [(3, .int p1), (0, .ref a0), (1, .int p0), (2, .int p1)]) K dX0_insert_1 rfl (by rw [En]; decide) rfl ?_
  obtain ⟨fl, hw⟩ := hw
  have key : ∀ (k2_43 : Int32 → XRow → Prop), (∀ (v1 : Int32) (v2 : XRow), k2_43 v1 v2 → Gx X 0 0 [(a0, .inr (2, [.ref a1, .ref a3, .int dBc])), (a1, .inr (7, [.int 12, .ref a2])), (a2, .inl (cy 0, 720, .inl dN)), (a3, .inr (7, [.int 60, .ref a4])), (a4, .inl (cy 0, 60, .inl v2))] [(3, .int v1), (0, .ref a0), (1, .int p0), (2, .int p1)] 43 []) → ∀ (n : Nat) (v1 : Int32) (v2 : XRow), wp_X0_insert_L2 dN p0 k2_43 n v1 v2 → Gx X 0 0 [(a0, .inr (2, [.ref a1, .ref a3, .int dBc])), (a1, .inr (7, [.int 12, .ref a2])), (a2, .inl (cy 0, 720, .inl dN)), (a3, .inr (7, [.int 60, .ref a4])), (a4, .inl (cy 0, 60, .inl v2))] [(3, .int v1), (0, .ref a0), (1, .int p0), (2, .int p1)] 2 [] := by
    intro k2_43 hx43 n
    induction n with
    | zero => intro v1 v2 hw; exact hw.elim
    | succ n ih =>
      intro v1 v2 hw
      refine g_iload_n K 0 dX0_insert_2 rfl ?_
      refine g_if_le (tgt := 43) K dX0_insert_3 (by decide) (fun hc => ?_) (fun hc => ?_)
      · replace hw := hw.1 hc
        exact hx43 _ _ hw
      · replace hw := hw.2 hc
        refine g_aload_n K 1 dX0_insert_6 rfl ?_
        refine g_iload_n K 2 dX0_insert_7 rfl ?_
        refine g_aload_n K 1 dX0_insert_8 rfl ?_
        refine g_iload_n K 0 dX0_insert_9 rfl ?_
        refine g_iconst (v := 1) K dX0_insert_10 rfl ?_
        refine g_isub K dX0_insert_11 ?_
        refine g_callVr (st' := fun u3 => [.int u3, .int p0, .ref a0]) K hR [.int (v1 - 1)] [.int p0, .ref a0] 0 rfl rfl (c_X0_atPlace X.2.1 (gxD X) cy sd a0 a1 a2 a3 a4 dN dBc v2 (v1 - 1) hw) gX0_insert_X0_atPlace rfl yok_X0_atPlace rfl rfl (by decide) rfl (Nat.le_of_ble_eq_true rfl) dX0_insert_12 [0, 1, 2, 3, 4] rfl (by decide) (fun _ => rfl) ⟨rfl, rfl⟩ (fun u3 hw => ?_)
        refine g_callVr (st' := fun u4 => [.int (bI u4)]) K hR [.int p0, .int u3] [] 0 rfl rfl (c_X0_isAhead X.2.1 (gxD X) cy sd a0 a1 a2 a3 a4 dN dBc v2 p0 u3 hw) gX0_insert_X0_isAhead rfl yok_X0_isAhead rfl rfl (by decide) rfl (Nat.le_of_ble_eq_true rfl) dX0_insert_15 [0, 1, 2, 3, 4] rfl (by decide) (fun _ => rfl) ⟨rfl, rfl⟩ (fun u4 hw => ?_)
        refine g_ifb_eq (tgt := 43) K dX0_insert_18 (by decide) (fun hc => ?_) (fun hc => ?_)
        · replace hw := hw.2 hc
          exact hx43 _ _ hw
        · replace hw := hw.1 hc
          refine g_aload_n K 1 dX0_insert_21 rfl ?_
          refine g_get K (C := RX0) (T := TX0) (N := 3) 0 1 in_X0_insert_X0 (by decide +kernel) rfl rfl (by decide) rfl dX0_insert_22 ?_
          refine g_iconst (v := 0) K dX0_insert_25 rfl ?_
          refine g_iload_n K 0 dX0_insert_26 rfl ?_
          refine g_aload_n K 1 dX0_insert_27 rfl ?_
          refine g_iload_n K 0 dX0_insert_28 rfl ?_
          refine g_iconst (v := 1) K dX0_insert_29 rfl ?_
          refine g_isub K dX0_insert_30 ?_
          refine g_callVr (st' := fun u5 => [.int u5, .int v1, .int 0, .ref a3]) K hR [.int (v1 - 1)] [.int v1, .int 0, .ref a3] 0 rfl rfl (c_X0_atPlace X.2.1 (gxD X) cy sd a0 a1 a2 a3 a4 dN dBc v2 (v1 - 1) hw) gX0_insert_X0_atPlace rfl yok_X0_atPlace rfl rfl (by decide) rfl (Nat.le_of_ble_eq_true rfl) dX0_insert_31 [0, 1, 2, 3, 4] rfl (by decide) (fun _ => rfl) ⟨rfl, rfl⟩ (fun u5 hw => ?_)
          refine g_callV (st' := fun u6 => []) (ws' := fun u6 => [(a0, .inr (2, [.ref a1, .ref a3, .int dBc])), (a1, .inr (7, [.int 12, .ref a2])), (a2, .inl (cy 0, 720, .inl dN)), (a3, .inr (7, [.int 60, .ref a4])), (a4, .inl (cy 0, 60, .inl u6))]) K hR [.int 0, .int v1, .int u5] [] 3 rfl rfl (c_X6_put X.2.1 (gxD X) cy sd a3 a4 60 60 v2 0 v1 u5 hw) gX0_insert_X6_put rfl yok_X6_put rfl rfl (by decide) rfl (Nat.le_of_ble_eq_true rfl) dX0_insert_34 [3, 4] rfl (by decide) (fun _ => rfl) (fun _ => rfl) (fun _ => rfl) ⟨rfl, rfl⟩ (fun u6 hw => ?_)
          obtain ⟨x7, ex7⟩ : ∃ z : Int32, z = v1 + (-1) := ⟨_, rfl⟩
          replace hw := hw x7 ex7
          refine g_iinc (v := x7) (lv' := [(3, .int x7), (0, .ref a0), (1, .int p0), (2, .int p1)]) K 0 dX0_insert_37 rfl (by rw [ex7]; rfl) (by rw [En]; decide) rfl ?_
          refine g_goto (tgt := 2) K dX0_insert_40 (by decide) ?_
          exact ih _ _ hw
  refine key _ (fun v8 v9 hw => ?_) fl _ _ hw
  refine g_aload_n K 1 dX0_insert_43 rfl ?_
  refine g_get K (C := RX0) (T := TX0) (N := 3) 0 1 in_X0_insert_X0 (by decide +kernel) rfl rfl (by decide) rfl dX0_insert_44 ?_
  refine g_iconst (v := 0) K dX0_insert_47 rfl ?_
  refine g_iload_n K 0 dX0_insert_48 rfl ?_
  refine g_iload_n K 2 dX0_insert_49 rfl ?_
  refine g_callV (st' := fun u10 => []) (ws' := fun u10 => [(a0, .inr (2, [.ref a1, .ref a3, .int dBc])), (a1, .inr (7, [.int 12, .ref a2])), (a2, .inl (cy 0, 720, .inl dN)), (a3, .inr (7, [.int 60, .ref a4])), (a4, .inl (cy 0, 60, .inl u10))]) K hR [.int 0, .int v8, .int p0] [] 3 rfl rfl (c_X6_put X.2.1 (gxD X) cy sd a3 a4 60 60 v9 0 v8 p0 hw) gX0_insert_X6_put rfl yok_X6_put rfl rfl (by decide) rfl (Nat.le_of_ble_eq_true rfl) dX0_insert_50 [3, 4] rfl (by decide) (fun _ => rfl) (fun _ => rfl) (fun _ => rfl) ⟨rfl, rfl⟩ (fun u10 hw => ?_)
  exact g_vret K E Er u10 hw rfl rfl (Nat.le_refl _) (Nat.le_refl _) dX0_insert_53

def wp_X0_putInOrder_L4 (dN : XRow) (dBc : Int32) (k4_35 : Int32 → Int32 → XRow → Prop) : Nat → Int32 → Int32 → XRow → Prop
  | 0, _, _, _ => False
  | fu + 1, v1, v2, v3 => (dBc ≤ v1 → (k4_35 v1 v2 v3)) ∧ (¬ dBc ≤ v1 → (wp_X0_isInStock dN v1 (fun u4 : Bool => (u4 = true → (wp_X0_insert dN v3 v1 v2 (fun u6 : XRow => ∀ x7 : Int32, x7 = v2 + 1 → (∀ x8 : Int32, x8 = v1 + 1 → (wp_X0_putInOrder_L4 dN dBc k4_35 fu x8 x7 u6))))) ∧ (u4 = false → (∀ x5 : Int32, x5 = v1 + 1 → (wp_X0_putInOrder_L4 dN dBc k4_35 fu x5 v2 v3))))))
def wp_X0_putInOrder (dN : XRow) (dBc : Int32) (dO : XRow) (post : (Int32 × XRow) → Prop) : Prop := ∃ fl, wp_X0_putInOrder_L4 dN dBc (fun (v9 : Int32) (v10 : Int32) (v11 : XRow) => post (v10, v11)) fl 0 0 dO
theorem in_X0_putInOrder_X0 : ∀ w ∈ u_ws RX0 TX0 3, w ∈ wsX0_putInOrder := by decide +kernel
set_option maxRecDepth 100000 in
set_option maxHeartbeats 4000000 in
theorem c_X0_putInOrder (l : Launch) (D : va_G) (cy : Nat → ClassId) (sd : xSd) (a0 a1 a2 a3 a4 : Nat) (dN : XRow) (dBc : Int32) (dO : XRow) {post : (Int32 × XRow) → Prop} (hw : wp_X0_putInOrder dN dBc dO post) : Ctr l D (xTys cy) sd yX0_putInOrder wsX0_putInOrder ({ frames := 3, cells := 0, slots := 0, locals := 70 } : Room) [.ref a0] (fun u : Int32 × XRow => some (.int u.1)) [(a0, .inr (2, [.ref a1, .ref a3, .int dBc])), (a1, .inr (7, [.int 12, .ref a2])), (a2, .inl (cy 0, 720, .inl dN)), (a3, .inr (7, [.int 60, .ref a4])), (a4, .inl (cy 0, 60, .inl dO))] (fun u => [(a0, .inr (2, [.ref a1, .ref a3, .int dBc])), (a1, .inr (7, [.int 12, .ref a2])), (a2, .inl (cy 0, 720, .inl dN)), (a3, .inr (7, [.int 60, .ref a4])), (a4, .inl (cy 0, 60, .inl u.2))]) post := by
  refine Ctr.of (cc := cX0_putInOrder) (maxL := 3) (ret := (some .int)) (lv0 := [(0, .ref a0)]) (by decide) rfl (Nat.le_of_ble_eq_true rfl) rfl ?_
  intro X El hR Er Enm ED E En K
  have K : Cx X cX0_putInOrder RX0 wsX0_putInOrder (xTys cy) sd := K
  have E : X.2.2.2.2.2.2.2.2.2.2.1 = xMQ X (fun u : Int32 × XRow => some (.int u.1)) post (fun u => [(a0, .inr (2, [.ref a1, .ref a3, .int dBc])), (a1, .inr (7, [.int 12, .ref a2])), (a2, .inl (cy 0, 720, .inl dN)), (a3, .inr (7, [.int 60, .ref a4])), (a4, .inl (cy 0, 60, .inl u.2))]) 0 0 := E
  unfold wp_X0_putInOrder at hw
  refine g_iconst (v := 0) K dX0_putInOrder_0 rfl ?_
  refine g_istore_n (lv' := [(1, .int 0), (0, .ref a0)]) K dX0_putInOrder_1 rfl (by rw [En]; decide) rfl ?_
  refine g_iconst (v := 0) K dX0_putInOrder_2 rfl ?_
  refine g_istore_n (lv' := [(2, .int 0), (1, .int 0), (0, .ref a0)]) K dX0_putInOrder_3 rfl (by rw [En]; decide) rfl ?_
  obtain ⟨fl, hw⟩ := hw
  have key : ∀ (k4_35 : Int32 → Int32 → XRow → Prop), (∀ (v1 : Int32) (v2 : Int32) (v3 : XRow), k4_35 v1 v2 v3 → Gx X 0 0 [(a0, .inr (2, [.ref a1, .ref a3, .int dBc])), (a1, .inr (7, [.int 12, .ref a2])), (a2, .inl (cy 0, 720, .inl dN)), (a3, .inr (7, [.int 60, .ref a4])), (a4, .inl (cy 0, 60, .inl v3))] [(2, .int v1), (1, .int v2), (0, .ref a0)] 35 []) → ∀ (n : Nat) (v1 : Int32) (v2 : Int32) (v3 : XRow), wp_X0_putInOrder_L4 dN dBc k4_35 n v1 v2 v3 → Gx X 0 0 [(a0, .inr (2, [.ref a1, .ref a3, .int dBc])), (a1, .inr (7, [.int 12, .ref a2])), (a2, .inl (cy 0, 720, .inl dN)), (a3, .inr (7, [.int 60, .ref a4])), (a4, .inl (cy 0, 60, .inl v3))] [(2, .int v1), (1, .int v2), (0, .ref a0)] 4 [] := by
    intro k4_35 hx35 n
    induction n with
    | zero => intro v1 v2 v3 hw; exact hw.elim
    | succ n ih =>
      intro v1 v2 v3 hw
      refine g_iload_n K 0 dX0_putInOrder_4 rfl ?_
      refine g_aload_n K 2 dX0_putInOrder_5 rfl ?_
      refine g_get K (C := RX0) (T := TX0) (N := 3) 0 2 in_X0_putInOrder_X0 (by decide +kernel) rfl rfl (by decide) rfl dX0_putInOrder_6 ?_
      refine g_icmp_ge (tgt := 35) K dX0_putInOrder_9 (by decide) (fun hc => ?_) (fun hc => ?_)
      · replace hw := hw.1 hc
        exact hx35 _ _ _ hw
      · replace hw := hw.2 hc
        refine g_aload_n K 2 dX0_putInOrder_12 rfl ?_
        refine g_iload_n K 0 dX0_putInOrder_13 rfl ?_
        refine g_callVr (st' := fun u4 => [.int (bI u4)]) K hR [.int v1] [] 0 rfl rfl (c_X0_isInStock X.2.1 (gxD X) cy sd a0 a1 a2 a3 a4 dN dBc v3 v1 hw) gX0_putInOrder_X0_isInStock rfl yok_X0_isInStock rfl rfl (by decide) rfl (Nat.le_of_ble_eq_true rfl) dX0_putInOrder_14 [0, 1, 2, 3, 4] rfl (by decide) (fun _ => rfl) ⟨rfl, rfl⟩ (fun u4 hw => ?_)
        refine g_ifb_eq (tgt := 29) K dX0_putInOrder_17 (by decide) (fun hc => ?_) (fun hc => ?_)
        · replace hw := hw.2 hc
          obtain ⟨x5, ex5⟩ : ∃ z : Int32, z = v1 + 1 := ⟨_, rfl⟩
          replace hw := hw x5 ex5
          refine g_iinc (v := x5) (lv' := [(2, .int x5), (1, .int v2), (0, .ref a0)]) K 0 dX0_putInOrder_29 rfl (by rw [ex5]; rfl) (by rw [En]; decide) rfl ?_
          refine g_goto (tgt := 4) K dX0_putInOrder_32 (by decide) ?_
          exact ih _ _ _ hw
        · replace hw := hw.1 hc
          refine g_aload_n K 2 dX0_putInOrder_20 rfl ?_
          refine g_iload_n K 0 dX0_putInOrder_21 rfl ?_
          refine g_iload_n K 1 dX0_putInOrder_22 rfl ?_
          refine g_callV (st' := fun u6 => []) (ws' := fun u6 => [(a0, .inr (2, [.ref a1, .ref a3, .int dBc])), (a1, .inr (7, [.int 12, .ref a2])), (a2, .inl (cy 0, 720, .inl dN)), (a3, .inr (7, [.int 60, .ref a4])), (a4, .inl (cy 0, 60, .inl u6))]) K hR [.int v1, .int v2] [] 0 rfl rfl (c_X0_insert X.2.1 (gxD X) cy sd a0 a1 a2 a3 a4 dN dBc v3 v1 v2 hw) gX0_putInOrder_X0_insert rfl yok_X0_insert rfl rfl (by decide) rfl (Nat.le_of_ble_eq_true rfl) dX0_putInOrder_23 [0, 1, 2, 3, 4] rfl (by decide) (fun _ => rfl) (fun _ => rfl) (fun _ => rfl) ⟨rfl, rfl⟩ (fun u6 hw => ?_)
          obtain ⟨x7, ex7⟩ : ∃ z : Int32, z = v2 + 1 := ⟨_, rfl⟩
          replace hw := hw x7 ex7
          refine g_iinc (v := x7) (lv' := [(1, .int x7), (2, .int v1), (0, .ref a0)]) K 1 dX0_putInOrder_26 rfl (by rw [ex7]; rfl) (by rw [En]; decide) rfl ?_
          obtain ⟨x8, ex8⟩ : ∃ z : Int32, z = v1 + 1 := ⟨_, rfl⟩
          replace hw := hw x8 ex8
          refine g_iinc (v := x8) (lv' := [(2, .int x8), (1, .int x7), (0, .ref a0)]) K 1 dX0_putInOrder_29 rfl (by rw [ex8]; rfl) (by rw [En]; decide) rfl ?_
          refine g_goto (tgt := 4) K dX0_putInOrder_32 (by decide) ?_
          exact ih _ _ _ hw
  refine key _ (fun v9 v10 v11 hw => ?_) fl _ _ _ hw
  refine g_iload_n K 1 dX0_putInOrder_35 rfl ?_
  exact g_zret K E Er (v10, v11) hw rfl rfl rfl (Nat.le_refl _) (Nat.le_refl _) dX0_putInOrder_36

def wp_X1_copyFrom (dC : XRow) (dCb : XRow) (dCcb : Int32) (post : (Int32 × XRow) → Prop) : Prop := wp_X6_copyFrom 40 dC 40 dCb (fun u1 : XRow => post (dCcb, u1))
theorem in_X1_copyFrom_X1 : ∀ w ∈ u_ws RX1 TX1 2, w ∈ wsX1_copyFrom := by decide +kernel
set_option maxRecDepth 100000 in
set_option maxHeartbeats 4000000 in
theorem c_X1_copyFrom (l : Launch) (D : va_G) (cy : Nat → ClassId) (sd : xSd) (a0 a1 a2 : Nat) (b0 b1 b2 : Nat) (dC : XRow) (dCc : Int32) (dCb : XRow) (dCcb : Int32) {post : (Int32 × XRow) → Prop} (hw : wp_X1_copyFrom dC dCb dCcb post) : Ctr l D (xTys cy) sd yX1_copyFrom wsX1_copyFrom ({ frames := 2, cells := 0, slots := 0, locals := 81 } : Room) [.ref a0, .ref b0] (fun u : Int32 × XRow => none) [(a0, .inr (3, [.ref a1, .int dCc])), (a1, .inr (7, [.int 5, .ref a2])), (a2, .inl (cy 0, 40, .inl dC)), (b0, .inr (3, [.ref b1, .int dCcb])), (b1, .inr (7, [.int 5, .ref b2])), (b2, .inl (cy 0, 40, .inl dCb))] (fun u => [(a0, .inr (3, [.ref a1, .int u.1])), (a1, .inr (7, [.int 5, .ref a2])), (a2, .inl (cy 0, 40, .inl u.2)), (b0, .inr (3, [.ref b1, .int dCcb])), (b1, .inr (7, [.int 5, .ref b2])), (b2, .inl (cy 0, 40, .inl dCb))]) post := by
  refine Ctr.of (cc := cX1_copyFrom) (maxL := 2) (ret := none) (lv0 := [(0, .ref a0), (1, .ref b0)]) (by decide) rfl (Nat.le_of_ble_eq_true rfl) rfl ?_
  intro X El hR Er Enm ED E En K
  have K : Cx X cX1_copyFrom RX1 wsX1_copyFrom (xTys cy) sd := K
  have E : X.2.2.2.2.2.2.2.2.2.2.1 = xMQ X (fun u : Int32 × XRow => none) post (fun u => [(a0, .inr (3, [.ref a1, .int u.1])), (a1, .inr (7, [.int 5, .ref a2])), (a2, .inl (cy 0, 40, .inl u.2)), (b0, .inr (3, [.ref b1, .int dCcb])), (b1, .inr (7, [.int 5, .ref b2])), (b2, .inl (cy 0, 40, .inl dCb))]) 0 0 := E
  unfold wp_X1_copyFrom at hw
  refine g_aload_n K 0 dX1_copyFrom_0 rfl ?_
  refine g_get K (C := RX1) (T := TX1) (N := 2) 0 0 in_X1_copyFrom_X1 (by decide +kernel) rfl rfl (by decide) rfl dX1_copyFrom_1 ?_
  refine g_aload_n K 1 dX1_copyFrom_4 rfl ?_
  refine g_get K (C := RX1) (T := TX1) (N := 2) 3 0 in_X1_copyFrom_X1 (by decide +kernel) rfl rfl (by decide) rfl dX1_copyFrom_5 ?_
  refine g_callV (st' := fun u1 => []) (ws' := fun u1 => [(a0, .inr (3, [.ref a1, .int dCc])), (a1, .inr (7, [.int 5, .ref a2])), (a2, .inl (cy 0, 40, .inl u1)), (b0, .inr (3, [.ref b1, .int dCcb])), (b1, .inr (7, [.int 5, .ref b2])), (b2, .inl (cy 0, 40, .inl dCb))]) K hR [.ref b1] [] 1 rfl rfl (c_X6_copyFrom X.2.1 (gxD X) cy sd a1 a2 b1 b2 5 40 dC 5 40 dCb hw) gX1_copyFrom_X6_copyFrom rfl yok_X6_copyFrom rfl rfl (by decide) rfl (Nat.le_of_ble_eq_true rfl) dX1_copyFrom_8 [1, 2, 4, 5] rfl (by decide) (fun _ => rfl) (fun _ => rfl) (fun _ => rfl) ⟨rfl, rfl⟩ (fun u1 hw => ?_)
  refine g_aload_n K 0 dX1_copyFrom_11 rfl ?_
  refine g_aload_n K 1 dX1_copyFrom_12 rfl ?_
  refine g_get K (C := RX1) (T := TX1) (N := 2) 3 1 in_X1_copyFrom_X1 (by decide +kernel) rfl rfl (by decide) rfl dX1_copyFrom_13 ?_
  refine g_put (ty := .int) (ws' := [(a0, .inr (3, [.ref a1, .int dCcb])), (a1, .inr (7, [.int 5, .ref a2])), (a2, .inl (cy 0, 40, .inl u1)), (b0, .inr (3, [.ref b1, .int dCcb])), (b1, .inr (7, [.int 5, .ref b2])), (b2, .inl (cy 0, 40, .inl dCb))]) K (C := RX1) (T := TX1) (N := 2) 0 1 in_X1_copyFrom_X1 tyX1 tyX1_ok nmX1 (by decide +kernel) rfl rfl (by decide) rfl (by decide +kernel) rfl rfl (Nat.le_of_ble_eq_true rfl) rfl dX1_copyFrom_16 ?_
  exact g_vret K E Er (dCcb, u1) hw rfl rfl (Nat.le_refl _) (Nat.le_refl _) dX1_copyFrom_19

def wp_X1_faultOfNew (dCc : Int32) (p0 : Int32) (p1 : Int32) (p2 : Int32) (p3 : Int32) (post : (Fin 4) → Prop) : Prop := wp_X8_isMaterial p0 (fun u1 : Bool => (u1 = true → (wp_X8_isWithin p1 0 1000 (fun u2 : Bool => (u2 = true → (wp_X8_isWithin p2 1 9999 (fun u3 : Bool => (u3 = true → (wp_X8_isWithin p3 1 99 (fun u4 : Bool => (u4 = true → ((dCc < 8 → (post (0 : Fin 4))) ∧ (¬ dCc < 8 → (post (3 : Fin 4))))) ∧ (u4 = false → (post (2 : Fin 4)))))) ∧ (u3 = false → (post (2 : Fin 4)))))) ∧ (u2 = false → (post (2 : Fin 4)))))) ∧ (u1 = false → (post (1 : Fin 4))))
theorem in_X1_faultOfNew_X1 : ∀ w ∈ u_ws RX1 TX1 2, w ∈ wsX1_faultOfNew := by decide +kernel
set_option maxRecDepth 100000 in
set_option maxHeartbeats 4000000 in
theorem c_X1_faultOfNew (l : Launch) (D : va_G) (cy : Nat → ClassId) (sd : xSd) (a0 a1 a2 : Nat) (dC : XRow) (dCc : Int32) (p0 : Int32) (p1 : Int32) (p2 : Int32) (p3 : Int32) {post : (Fin 4) → Prop} (hw : wp_X1_faultOfNew dCc p0 p1 p2 p3 post) : Ctr l D (xTys cy) sd yX1_faultOfNew wsX1_faultOfNew ({ frames := 2, cells := 0, slots := 0, locals := 42 } : Room) [.ref a0, .int p0, .int p1, .int p2, .int p3] (fun u : Fin 4 => some (.ref (sd.1 (u).val))) [(a0, .inr (3, [.ref a1, .int dCc])), (a1, .inr (7, [.int 5, .ref a2])), (a2, .inl (cy 0, 40, .inl dC))] (fun _ => [(a0, .inr (3, [.ref a1, .int dCc])), (a1, .inr (7, [.int 5, .ref a2])), (a2, .inl (cy 0, 40, .inl dC))]) post := by
  refine Ctr.of (cc := cX1_faultOfNew) (maxL := 6) (ret := (some (.object "RecyclingSorter$Fault"))) (lv0 := [(0, .ref a0), (1, .int p0), (2, .int p1), (3, .int p2), (4, .int p3)]) (by decide) rfl (Nat.le_of_ble_eq_true rfl) rfl ?_
  intro X El hR Er Enm ED E En K
  have K : Cx X cX1_faultOfNew RX1 wsX1_faultOfNew (xTys cy) sd := K
  have E : X.2.2.2.2.2.2.2.2.2.2.1 = xMQ X (fun u : Fin 4 => some (.ref (sd.1 (u).val))) post (fun _ => [(a0, .inr (3, [.ref a1, .int dCc])), (a1, .inr (7, [.int 5, .ref a2])), (a2, .inl (cy 0, 40, .inl dC))]) 0 0 := E
  unfold wp_X1_faultOfNew at hw
  refine g_iload_n K 1 dX1_faultOfNew_0 rfl ?_
  refine g_callSNr (st' := fun u1 => [.int (bI u1)]) K hR [.int p0] [] RX8 (by decide +kernel) (by decide +kernel) (by decide +kernel) (c_X8_isMaterial X.2.1 (gxD X) cy sd p0 hw) gX1_faultOfNew_X8_isMaterial_n28 rfl yok_X8_isMaterial rfl (by decide) rfl (Nat.le_of_ble_eq_true rfl) dX1_faultOfNew_1 [] rfl (by decide) (fun _ => rfl) ⟨rfl, rfl⟩ (fun u1 hw => ?_)
  refine g_ifb_ne (tgt := 11) K dX1_faultOfNew_4 (by decide) (fun hc => ?_) (fun hc => ?_)
  · replace hw := hw.1 hc
    refine g_iload_n K 2 dX1_faultOfNew_11 rfl ?_
    refine g_iconst (v := 0) K dX1_faultOfNew_12 rfl ?_
    refine g_sipush (v := 1000) K dX1_faultOfNew_13 rfl ?_
    refine g_callSNr (st' := fun u2 => [.int (bI u2)]) K hR [.int p1, .int 0, .int 1000] [] RX8 (by decide +kernel) (by decide +kernel) (by decide +kernel) (c_X8_isWithin X.2.1 (gxD X) cy sd p1 0 1000 hw) gX1_faultOfNew_X8_isWithin_n38 rfl yok_X8_isWithin rfl (by decide) rfl (Nat.le_of_ble_eq_true rfl) dX1_faultOfNew_16 [] rfl (by decide) (fun _ => rfl) ⟨rfl, rfl⟩ (fun u2 hw => ?_)
    refine g_ifb_eq (tgt := 48) K dX1_faultOfNew_19 (by decide) (fun hc => ?_) (fun hc => ?_)
    · replace hw := hw.2 hc
      refine g_iconst (v := 0) K dX1_faultOfNew_48 rfl ?_
      refine g_istore (lv' := [(5, .int 0), (0, .ref a0), (1, .int p0), (2, .int p1), (3, .int p2), (4, .int p3)]) K dX1_faultOfNew_49 (by rw [En]; decide) rfl ?_
      refine g_iload K 0 dX1_faultOfNew_51 rfl ?_
      refine g_if_ne (tgt := 60) K dX1_faultOfNew_53 (by decide) (fun hc => absurd hc (by decide)) (fun _ => ?_)
      refine g_getsF K 2 (by decide) rfl (by decide +kernel) dX1_faultOfNew_56 ?_
      exact g_aret K E Er (Or.inl ⟨_, rfl⟩) (2 : Fin 4) hw rfl (Or.inr ⟨_, rfl⟩) rfl (Nat.le_refl _) (Nat.le_refl _) dX1_faultOfNew_59
    · replace hw := hw.1 hc
      refine g_iload_n K 3 dX1_faultOfNew_22 rfl ?_
      refine g_iconst (v := 1) K dX1_faultOfNew_23 rfl ?_
      refine g_sipush (v := 9999) K dX1_faultOfNew_24 rfl ?_
      refine g_callSNr (st' := fun u3 => [.int (bI u3)]) K hR [.int p2, .int 1, .int 9999] [] RX8 (by decide +kernel) (by decide +kernel) (by decide +kernel) (c_X8_isWithin X.2.1 (gxD X) cy sd p2 1 9999 hw) gX1_faultOfNew_X8_isWithin_n38 rfl yok_X8_isWithin rfl (by decide) rfl (Nat.le_of_ble_eq_true rfl) dX1_faultOfNew_27 [] rfl (by decide) (fun _ => rfl) ⟨rfl, rfl⟩ (fun u3 hw => ?_)
      refine g_ifb_eq (tgt := 48) K dX1_faultOfNew_30 (by decide) (fun hc => ?_) (fun hc => ?_)
      · replace hw := hw.2 hc
        refine g_iconst (v := 0) K dX1_faultOfNew_48 rfl ?_
        refine g_istore (lv' := [(5, .int 0), (0, .ref a0), (1, .int p0), (2, .int p1), (3, .int p2), (4, .int p3)]) K dX1_faultOfNew_49 (by rw [En]; decide) rfl ?_
        refine g_iload K 0 dX1_faultOfNew_51 rfl ?_
        refine g_if_ne (tgt := 60) K dX1_faultOfNew_53 (by decide) (fun hc => absurd hc (by decide)) (fun _ => ?_)
        refine g_getsF K 2 (by decide) rfl (by decide +kernel) dX1_faultOfNew_56 ?_
        exact g_aret K E Er (Or.inl ⟨_, rfl⟩) (2 : Fin 4) hw rfl (Or.inr ⟨_, rfl⟩) rfl (Nat.le_refl _) (Nat.le_refl _) dX1_faultOfNew_59
      · replace hw := hw.1 hc
        refine g_iload K 4 dX1_faultOfNew_33 rfl ?_
        refine g_iconst (v := 1) K dX1_faultOfNew_35 rfl ?_
        refine g_bipush (v := 99) K dX1_faultOfNew_36 rfl ?_
        refine g_callSNr (st' := fun u4 => [.int (bI u4)]) K hR [.int p3, .int 1, .int 99] [] RX8 (by decide +kernel) (by decide +kernel) (by decide +kernel) (c_X8_isWithin X.2.1 (gxD X) cy sd p3 1 99 hw) gX1_faultOfNew_X8_isWithin_n38 rfl yok_X8_isWithin rfl (by decide) rfl (Nat.le_of_ble_eq_true rfl) dX1_faultOfNew_38 [] rfl (by decide) (fun _ => rfl) ⟨rfl, rfl⟩ (fun u4 hw => ?_)
        refine g_ifb_eq (tgt := 48) K dX1_faultOfNew_41 (by decide) (fun hc => ?_) (fun hc => ?_)
        · replace hw := hw.2 hc
          refine g_iconst (v := 0) K dX1_faultOfNew_48 rfl ?_
          refine g_istore (lv' := [(5, .int 0), (0, .ref a0), (1, .int p0), (2, .int p1), (3, .int p2), (4, .int p3)]) K dX1_faultOfNew_49 (by rw [En]; decide) rfl ?_
          refine g_iload K 0 dX1_faultOfNew_51 rfl ?_
          refine g_if_ne (tgt := 60) K dX1_faultOfNew_53 (by decide) (fun hc => absurd hc (by decide)) (fun _ => ?_)
          refine g_getsF K 2 (by decide) rfl (by decide +kernel) dX1_faultOfNew_56 ?_
          exact g_aret K E Er (Or.inl ⟨_, rfl⟩) (2 : Fin 4) hw rfl (Or.inr ⟨_, rfl⟩) rfl (Nat.le_refl _) (Nat.le_refl _) dX1_faultOfNew_59
        · replace hw := hw.1 hc
          refine g_iconst (v := 1) K dX1_faultOfNew_44 rfl ?_
          refine g_goto (tgt := 49) K dX1_faultOfNew_45 (by decide) ?_
          refine g_istore (lv' := [(5, .int 1), (0, .ref a0), (1, .int p0), (2, .int p1), (3, .int p2), (4, .int p3)]) K dX1_faultOfNew_49 (by rw [En]; decide) rfl ?_
          refine g_iload K 0 dX1_faultOfNew_51 rfl ?_
          refine g_if_ne (tgt := 60) K dX1_faultOfNew_53 (by decide) (fun _ => ?_) (fun hc => absurd hc (by decide))
          refine g_aload_n K 1 dX1_faultOfNew_60 rfl ?_
          refine g_get K (C := RX1) (T := TX1) (N := 2) 0 1 in_X1_faultOfNew_X1 (by decide +kernel) rfl rfl (by decide) rfl dX1_faultOfNew_61 ?_
          refine g_bipush (v := 8) K dX1_faultOfNew_64 rfl ?_
          refine g_icmp_lt (tgt := 75) K dX1_faultOfNew_66 (by decide) (fun hc => ?_) (fun hc => ?_)
          · replace hw := hw.1 hc
            refine g_getsF K 0 (by decide) rfl (by decide +kernel) dX1_faultOfNew_75 ?_
            exact g_aret K E Er (Or.inl ⟨_, rfl⟩) (0 : Fin 4) hw rfl (Or.inr ⟨_, rfl⟩) rfl (Nat.le_refl _) (Nat.le_refl _) dX1_faultOfNew_78
          · replace hw := hw.2 hc
            refine g_getsF K 3 (by decide) rfl (by decide +kernel) dX1_faultOfNew_69 ?_
            refine g_goto (tgt := 78) K dX1_faultOfNew_72 (by decide) ?_
            exact g_aret K E Er (Or.inl ⟨_, rfl⟩) (3 : Fin 4) hw rfl (Or.inr ⟨_, rfl⟩) rfl (Nat.le_refl _) (Nat.le_refl _) dX1_faultOfNew_78
  · replace hw := hw.2 hc
    refine g_getsF K 1 (by decide) rfl (by decide +kernel) dX1_faultOfNew_7 ?_
    exact g_aret K E Er (Or.inl ⟨_, rfl⟩) (1 : Fin 4) hw rfl (Or.inr ⟨_, rfl⟩) rfl (Nat.le_refl _) (Nat.le_refl _) dX1_faultOfNew_10

def wp_X1_add (dC : XRow) (dCc : Int32) (p0 : Int32) (p1 : Int32) (p2 : Int32) (p3 : Int32) (post : (Int32 × Int32 × XRow) → Prop) : Prop := wp_X6_put 5 40 dC dCc 0 p0 (fun u1 : XRow => wp_X6_put 5 40 u1 dCc 1 p1 (fun u2 : XRow => wp_X6_put 5 40 u2 dCc 2 p2 (fun u3 : XRow => wp_X6_put 5 40 u3 dCc 3 p3 (fun u4 : XRow => wp_X6_put 5 40 u4 dCc 4 0 (fun u5 : XRow => ∀ x6 : Int32, x6 = dCc + 1 → (post (dCc, x6, u5)))))))
theorem in_X1_add_X1 : ∀ w ∈ u_ws RX1 TX1 2, w ∈ wsX1_add := by decide +kernel
set_option maxRecDepth 100000 in
set_option maxHeartbeats 4000000 in
theorem c_X1_add (l : Launch) (D : va_G) (cy : Nat → ClassId) (sd : xSd) (a0 a1 a2 : Nat) (dC : XRow) (dCc : Int32) (p0 : Int32) (p1 : Int32) (p2 : Int32) (p3 : Int32) {post : (Int32 × Int32 × XRow) → Prop} (hw : wp_X1_add dC dCc p0 p1 p2 p3 post) : Ctr l D (xTys cy) sd yX1_add wsX1_add ({ frames := 1, cells := 0, slots := 0, locals := 24 } : Room) [.ref a0, .int p0, .int p1, .int p2, .int p3] (fun u : Int32 × Int32 × XRow => some (.int u.1)) [(a0, .inr (3, [.ref a1, .int dCc])), (a1, .inr (7, [.int 5, .ref a2])), (a2, .inl (cy 0, 40, .inl dC))] (fun u => [(a0, .inr (3, [.ref a1, .int u.2.1])), (a1, .inr (7, [.int 5, .ref a2])), (a2, .inl (cy 0, 40, .inl u.2.2))]) post := by
  refine Ctr.of (cc := cX1_add) (maxL := 6) (ret := (some .int)) (lv0 := [(0, .ref a0), (1, .int p0), (2, .int p1), (3, .int p2), (4, .int p3)]) (by decide) rfl (Nat.le_of_ble_eq_true rfl) rfl ?_
  intro X El hR Er Enm ED E En K
  have K : Cx X cX1_add RX1 wsX1_add (xTys cy) sd := K
  have E : X.2.2.2.2.2.2.2.2.2.2.1 = xMQ X (fun u : Int32 × Int32 × XRow => some (.int u.1)) post (fun u => [(a0, .inr (3, [.ref a1, .int u.2.1])), (a1, .inr (7, [.int 5, .ref a2])), (a2, .inl (cy 0, 40, .inl u.2.2))]) 0 0 := E
  unfold wp_X1_add at hw
  refine g_aload_n K 0 dX1_add_0 rfl ?_
  refine g_get K (C := RX1) (T := TX1) (N := 2) 0 1 in_X1_add_X1 (by decide +kernel) rfl rfl (by decide) rfl dX1_add_1 ?_
  refine g_istore (lv' := [(5, .int dCc), (0, .ref a0), (1, .int p0), (2, .int p1), (3, .int p2), (4, .int p3)]) K dX1_add_4 (by rw [En]; decide) rfl ?_
  refine g_aload_n K 1 dX1_add_6 rfl ?_
  refine g_get K (C := RX1) (T := TX1) (N := 2) 0 0 in_X1_add_X1 (by decide +kernel) rfl rfl (by decide) rfl dX1_add_7 ?_
  refine g_iload K 0 dX1_add_10 rfl ?_
  refine g_iconst (v := 0) K dX1_add_12 rfl ?_
  refine g_iload_n K 2 dX1_add_13 rfl ?_
  refine g_callV (st' := fun u1 => []) (ws' := fun u1 => [(a0, .inr (3, [.ref a1, .int dCc])), (a1, .inr (7, [.int 5, .ref a2])), (a2, .inl (cy 0, 40, .inl u1))]) K hR [.int dCc, .int 0, .int p0] [] 1 rfl rfl (c_X6_put X.2.1 (gxD X) cy sd a1 a2 5 40 dC dCc 0 p0 hw) gX1_add_X6_put rfl yok_X6_put rfl rfl (by decide) rfl (Nat.le_of_ble_eq_true rfl) dX1_add_14 [1, 2] rfl (by decide) (fun _ => rfl) (fun _ => rfl) (fun _ => rfl) ⟨rfl, rfl⟩ (fun u1 hw => ?_)
  refine g_aload_n K 1 dX1_add_17 rfl ?_
  refine g_get K (C := RX1) (T := TX1) (N := 2) 0 0 in_X1_add_X1 (by decide +kernel) rfl rfl (by decide) rfl dX1_add_18 ?_
  refine g_iload K 0 dX1_add_21 rfl ?_
  refine g_iconst (v := 1) K dX1_add_23 rfl ?_
  refine g_iload_n K 3 dX1_add_24 rfl ?_
  refine g_callV (st' := fun u2 => []) (ws' := fun u2 => [(a0, .inr (3, [.ref a1, .int dCc])), (a1, .inr (7, [.int 5, .ref a2])), (a2, .inl (cy 0, 40, .inl u2))]) K hR [.int dCc, .int 1, .int p1] [] 1 rfl rfl (c_X6_put X.2.1 (gxD X) cy sd a1 a2 5 40 u1 dCc 1 p1 hw) gX1_add_X6_put rfl yok_X6_put rfl rfl (by decide) rfl (Nat.le_of_ble_eq_true rfl) dX1_add_25 [1, 2] rfl (by decide) (fun _ => rfl) (fun _ => rfl) (fun _ => rfl) ⟨rfl, rfl⟩ (fun u2 hw => ?_)
  refine g_aload_n K 1 dX1_add_28 rfl ?_
  refine g_get K (C := RX1) (T := TX1) (N := 2) 0 0 in_X1_add_X1 (by decide +kernel) rfl rfl (by decide) rfl dX1_add_29 ?_
  refine g_iload K 0 dX1_add_32 rfl ?_
  refine g_iconst (v := 2) K dX1_add_34 rfl ?_
  refine g_iload_n K 4 dX1_add_35 rfl ?_
  refine g_callV (st' := fun u3 => []) (ws' := fun u3 => [(a0, .inr (3, [.ref a1, .int dCc])), (a1, .inr (7, [.int 5, .ref a2])), (a2, .inl (cy 0, 40, .inl u3))]) K hR [.int dCc, .int 2, .int p2] [] 1 rfl rfl (c_X6_put X.2.1 (gxD X) cy sd a1 a2 5 40 u2 dCc 2 p2 hw) gX1_add_X6_put rfl yok_X6_put rfl rfl (by decide) rfl (Nat.le_of_ble_eq_true rfl) dX1_add_36 [1, 2] rfl (by decide) (fun _ => rfl) (fun _ => rfl) (fun _ => rfl) ⟨rfl, rfl⟩ (fun u3 hw => ?_)
  refine g_aload_n K 1 dX1_add_39 rfl ?_
  refine g_get K (C := RX1) (T := TX1) (N := 2) 0 0 in_X1_add_X1 (by decide +kernel) rfl rfl (by decide) rfl dX1_add_40 ?_
  refine g_iload K 0 dX1_add_43 rfl ?_
  refine g_iconst (v := 3) K dX1_add_45 rfl ?_
  refine g_iload K 5 dX1_add_46 rfl ?_
  refine g_callV (st' := fun u4 => []) (ws' := fun u4 => [(a0, .inr (3, [.ref a1, .int dCc])), (a1, .inr (7, [.int 5, .ref a2])), (a2, .inl (cy 0, 40, .inl u4))]) K hR [.int dCc, .int 3, .int p3] [] 1 rfl rfl (c_X6_put X.2.1 (gxD X) cy sd a1 a2 5 40 u3 dCc 3 p3 hw) gX1_add_X6_put rfl yok_X6_put rfl rfl (by decide) rfl (Nat.le_of_ble_eq_true rfl) dX1_add_48 [1, 2] rfl (by decide) (fun _ => rfl) (fun _ => rfl) (fun _ => rfl) ⟨rfl, rfl⟩ (fun u4 hw => ?_)
  refine g_aload_n K 1 dX1_add_51 rfl ?_
  refine g_get K (C := RX1) (T := TX1) (N := 2) 0 0 in_X1_add_X1 (by decide +kernel) rfl rfl (by decide) rfl dX1_add_52 ?_
  refine g_iload K 0 dX1_add_55 rfl ?_
  refine g_iconst (v := 4) K dX1_add_57 rfl ?_
  refine g_iconst (v := 0) K dX1_add_58 rfl ?_
  refine g_callV (st' := fun u5 => []) (ws' := fun u5 => [(a0, .inr (3, [.ref a1, .int dCc])), (a1, .inr (7, [.int 5, .ref a2])), (a2, .inl (cy 0, 40, .inl u5))]) K hR [.int dCc, .int 4, .int 0] [] 1 rfl rfl (c_X6_put X.2.1 (gxD X) cy sd a1 a2 5 40 u4 dCc 4 0 hw) gX1_add_X6_put rfl yok_X6_put rfl rfl (by decide) rfl (Nat.le_of_ble_eq_true rfl) dX1_add_59 [1, 2] rfl (by decide) (fun _ => rfl) (fun _ => rfl) (fun _ => rfl) ⟨rfl, rfl⟩ (fun u5 hw => ?_)
  refine g_aload_n K 1 dX1_add_62 rfl ?_
  refine g_dup K dX1_add_63 rfl ?_
  refine g_get K (C := RX1) (T := TX1) (N := 2) 0 1 in_X1_add_X1 (by decide +kernel) rfl rfl (by decide) rfl dX1_add_64 ?_
  refine g_iconst (v := 1) K dX1_add_67 rfl ?_
  refine g_iadd K dX1_add_68 ?_
  refine g_topi (fun x6 ex6 => ?_)
  replace hw := hw x6 ex6
  refine g_put (ty := .int) (ws' := [(a0, .inr (3, [.ref a1, .int x6])), (a1, .inr (7, [.int 5, .ref a2])), (a2, .inl (cy 0, 40, .inl u5))]) K (C := RX1) (T := TX1) (N := 2) 0 1 in_X1_add_X1 tyX1 tyX1_ok nmX1 (by decide +kernel) rfl rfl (by decide) rfl (by decide +kernel) rfl rfl (Nat.le_of_ble_eq_true rfl) rfl dX1_add_69 ?_
  refine g_iload K 0 dX1_add_72 rfl ?_
  exact g_zret K E Er (dCc, x6, u5) hw rfl rfl rfl (Nat.le_refl _) (Nat.le_refl _) dX1_add_74

def wp_X1_take (dC : XRow) (p0 : Int32) (p1 : Int32) (post : XRow → Prop) : Prop := wp_X6_add 5 40 dC p0 2 (-p1) (fun u1 : XRow => wp_X6_add 5 40 u1 p0 4 1 (fun u2 : XRow => post u2))
theorem in_X1_take_X1 : ∀ w ∈ u_ws RX1 TX1 2, w ∈ wsX1_take := by decide +kernel
set_option maxRecDepth 100000 in
set_option maxHeartbeats 4000000 in
theorem c_X1_take (l : Launch) (D : va_G) (cy : Nat → ClassId) (sd : xSd) (a0 a1 a2 : Nat) (dC : XRow) (dCc : Int32) (p0 : Int32) (p1 : Int32) {post : XRow → Prop} (hw : wp_X1_take dC p0 p1 post) : Ctr l D (xTys cy) sd yX1_take wsX1_take ({ frames := 2, cells := 0, slots := 0, locals := 47 } : Room) [.ref a0, .int p0, .int p1] (fun u : XRow => none) [(a0, .inr (3, [.ref a1, .int dCc])), (a1, .inr (7, [.int 5, .ref a2])), (a2, .inl (cy 0, 40, .inl dC))] (fun u => [(a0, .inr (3, [.ref a1, .int dCc])), (a1, .inr (7, [.int 5, .ref a2])), (a2, .inl (cy 0, 40, .inl u))]) post := by
  refine Ctr.of (cc := cX1_take) (maxL := 3) (ret := none) (lv0 := [(0, .ref a0), (1, .int p0), (2, .int p1)]) (by decide) rfl (Nat.le_of_ble_eq_true rfl) rfl ?_
  intro X El hR Er Enm ED E En K
  have K : Cx X cX1_take RX1 wsX1_take (xTys cy) sd := K
  have E : X.2.2.2.2.2.2.2.2.2.2.1 = xMQ X (fun u : XRow => none) post (fun u => [(a0, .inr (3, [.ref a1, .int dCc])), (a1, .inr (7, [.int 5, .ref a2])), (a2, .inl (cy 0, 40, .inl u))]) 0 0 := E
  unfold wp_X1_take at hw
  refine g_aload_n K 0 dX1_take_0 rfl ?_
  refine g_get K (C := RX1) (T := TX1) (N := 2) 0 0 in_X1_take_X1 (by decide +kernel) rfl rfl (by decide) rfl dX1_take_1 ?_
  refine g_iload_n K 1 dX1_take_4 rfl ?_
  refine g_iconst (v := 2) K dX1_take_5 rfl ?_
  refine g_iload_n K 2 dX1_take_6 rfl ?_
  refine g_ineg K dX1_take_7 ?_
  refine g_callV (st' := fun u1 => []) (ws' := fun u1 => [(a0, .inr (3, [.ref a1, .int dCc])), (a1, .inr (7, [.int 5, .ref a2])), (a2, .inl (cy 0, 40, .inl u1))]) K hR [.int p0, .int 2, .int (-p1)] [] 1 rfl rfl (c_X6_add X.2.1 (gxD X) cy sd a1 a2 5 40 dC p0 2 (-p1) hw) gX1_take_X6_add rfl yok_X6_add rfl rfl (by decide) rfl (Nat.le_of_ble_eq_true rfl) dX1_take_8 [1, 2] rfl (by decide) (fun _ => rfl) (fun _ => rfl) (fun _ => rfl) ⟨rfl, rfl⟩ (fun u1 hw => ?_)
  refine g_aload_n K 0 dX1_take_11 rfl ?_
  refine g_get K (C := RX1) (T := TX1) (N := 2) 0 0 in_X1_take_X1 (by decide +kernel) rfl rfl (by decide) rfl dX1_take_12 ?_
  refine g_iload_n K 1 dX1_take_15 rfl ?_
  refine g_iconst (v := 4) K dX1_take_16 rfl ?_
  refine g_iconst (v := 1) K dX1_take_17 rfl ?_
  refine g_callV (st' := fun u2 => []) (ws' := fun u2 => [(a0, .inr (3, [.ref a1, .int dCc])), (a1, .inr (7, [.int 5, .ref a2])), (a2, .inl (cy 0, 40, .inl u2))]) K hR [.int p0, .int 4, .int 1] [] 1 rfl rfl (c_X6_add X.2.1 (gxD X) cy sd a1 a2 5 40 u1 p0 4 1 hw) gX1_take_X6_add rfl yok_X6_add rfl rfl (by decide) rfl (Nat.le_of_ble_eq_true rfl) dX1_take_18 [1, 2] rfl (by decide) (fun _ => rfl) (fun _ => rfl) (fun _ => rfl) ⟨rfl, rfl⟩ (fun u2 hw => ?_)
  exact g_vret K E Er u2 hw rfl rfl (Nat.le_refl _) (Nat.le_refl _) dX1_take_21

def wp_X1_isFor (dC : XRow) (p0 : Int32) (p1 : Int32) (post : Bool → Prop) : Prop := wp_X6_get 5 40 dC p0 0 (fun u1 : Int32 => (u1 = p1 → (post true)) ∧ (¬ u1 = p1 → (post false)))
theorem in_X1_isFor_X1 : ∀ w ∈ u_ws RX1 TX1 2, w ∈ wsX1_isFor := by decide +kernel
set_option maxRecDepth 100000 in
set_option maxHeartbeats 4000000 in
theorem c_X1_isFor (l : Launch) (D : va_G) (cy : Nat → ClassId) (sd : xSd) (a0 a1 a2 : Nat) (dC : XRow) (dCc : Int32) (p0 : Int32) (p1 : Int32) {post : Bool → Prop} (hw : wp_X1_isFor dC p0 p1 post) : Ctr l D (xTys cy) sd yX1_isFor wsX1_isFor ({ frames := 1, cells := 0, slots := 0, locals := 23 } : Room) [.ref a0, .int p0, .int p1] (fun u : Bool => some (.int (bI u))) [(a0, .inr (3, [.ref a1, .int dCc])), (a1, .inr (7, [.int 5, .ref a2])), (a2, .inl (cy 0, 40, .inl dC))] (fun _ => [(a0, .inr (3, [.ref a1, .int dCc])), (a1, .inr (7, [.int 5, .ref a2])), (a2, .inl (cy 0, 40, .inl dC))]) post := by
  refine Ctr.of (cc := cX1_isFor) (maxL := 3) (ret := (some .boolean)) (lv0 := [(0, .ref a0), (1, .int p0), (2, .int p1)]) (by decide) rfl (Nat.le_of_ble_eq_true rfl) rfl ?_
  intro X El hR Er Enm ED E En K
  have K : Cx X cX1_isFor RX1 wsX1_isFor (xTys cy) sd := K
  have E : X.2.2.2.2.2.2.2.2.2.2.1 = xMQ X (fun u : Bool => some (.int (bI u))) post (fun _ => [(a0, .inr (3, [.ref a1, .int dCc])), (a1, .inr (7, [.int 5, .ref a2])), (a2, .inl (cy 0, 40, .inl dC))]) 0 0 := E
  unfold wp_X1_isFor at hw
  refine g_aload_n K 0 dX1_isFor_0 rfl ?_
  refine g_get K (C := RX1) (T := TX1) (N := 2) 0 0 in_X1_isFor_X1 (by decide +kernel) rfl rfl (by decide) rfl dX1_isFor_1 ?_
  refine g_iload_n K 1 dX1_isFor_4 rfl ?_
  refine g_iconst (v := 0) K dX1_isFor_5 rfl ?_
  refine g_callVr (st' := fun u1 => [.int u1]) K hR [.int p0, .int 0] [] 1 rfl rfl (c_X6_get X.2.1 (gxD X) cy sd a1 a2 5 40 dC p0 0 hw) gX1_isFor_X6_get rfl yok_X6_get rfl rfl (by decide) rfl (Nat.le_of_ble_eq_true rfl) dX1_isFor_6 [1, 2] rfl (by decide) (fun _ => rfl) ⟨rfl, rfl⟩ (fun u1 hw => ?_)
  refine g_iload_n K 2 dX1_isFor_9 rfl ?_
  refine g_icmp_ne (tgt := 17) K dX1_isFor_10 (by decide) (fun hc => ?_) (fun hc => ?_)
  · replace hw := hw.2 hc
    refine g_iconst (v := 0) K dX1_isFor_17 rfl ?_
    exact g_zret K E Er false hw rfl rfl rfl (Nat.le_refl _) (Nat.le_refl _) dX1_isFor_18
  · replace hw := hw.1 hc
    refine g_iconst (v := 1) K dX1_isFor_13 rfl ?_
    refine g_goto (tgt := 18) K dX1_isFor_14 (by decide) ?_
    exact g_zret K E Er true hw rfl rfl rfl (Nat.le_refl _) (Nat.le_refl _) dX1_isFor_18

def wp_X1_isBetter (dC : XRow) (p0 : Int32) (p1 : Int32) (post : Bool → Prop) : Prop := wp_X6_get 5 40 dC p0 3 (fun u1 : Int32 => wp_X6_get 5 40 dC p1 3 (fun u2 : Int32 => ∀ x3 : Int32, x3 = u1 - u2 → ((x3 = 0 → (wp_X6_get 5 40 dC p0 1 (fun u4 : Int32 => wp_X6_get 5 40 dC p1 1 (fun u5 : Int32 => (u4 ≤ u5 → (post false)) ∧ (¬ u4 ≤ u5 → (post true)))))) ∧ (¬ x3 = 0 → ((x3 ≤ 0 → (post false)) ∧ (¬ x3 ≤ 0 → (post true)))))))
theorem in_X1_isBetter_X1 : ∀ w ∈ u_ws RX1 TX1 2, w ∈ wsX1_isBetter := by decide +kernel
set_option maxRecDepth 100000 in
set_option maxHeartbeats 4000000 in
theorem c_X1_isBetter (l : Launch) (D : va_G) (cy : Nat → ClassId) (sd : xSd) (a0 a1 a2 : Nat) (dC : XRow) (dCc : Int32) (p0 : Int32) (p1 : Int32) {post : Bool → Prop} (hw : wp_X1_isBetter dC p0 p1 post) : Ctr l D (xTys cy) sd yX1_isBetter wsX1_isBetter ({ frames := 1, cells := 0, slots := 0, locals := 23 } : Room) [.ref a0, .int p0, .int p1] (fun u : Bool => some (.int (bI u))) [(a0, .inr (3, [.ref a1, .int dCc])), (a1, .inr (7, [.int 5, .ref a2])), (a2, .inl (cy 0, 40, .inl dC))] (fun _ => [(a0, .inr (3, [.ref a1, .int dCc])), (a1, .inr (7, [.int 5, .ref a2])), (a2, .inl (cy 0, 40, .inl dC))]) post := by
  refine Ctr.of (cc := cX1_isBetter) (maxL := 4) (ret := (some .boolean)) (lv0 := [(0, .ref a0), (1, .int p0), (2, .int p1)]) (by decide) rfl (Nat.le_of_ble_eq_true rfl) rfl ?_
  intro X El hR Er Enm ED E En K
  have K : Cx X cX1_isBetter RX1 wsX1_isBetter (xTys cy) sd := K
  have E : X.2.2.2.2.2.2.2.2.2.2.1 = xMQ X (fun u : Bool => some (.int (bI u))) post (fun _ => [(a0, .inr (3, [.ref a1, .int dCc])), (a1, .inr (7, [.int 5, .ref a2])), (a2, .inl (cy 0, 40, .inl dC))]) 0 0 := E
  unfold wp_X1_isBetter at hw
  refine g_aload_n K 0 dX1_isBetter_0 rfl ?_
  refine g_get K (C := RX1) (T := TX1) (N := 2) 0 0 in_X1_isBetter_X1 (by decide +kernel) rfl rfl (by decide) rfl dX1_isBetter_1 ?_
  refine g_iload_n K 1 dX1_isBetter_4 rfl ?_
  refine g_iconst (v := 3) K dX1_isBetter_5 rfl ?_
  refine g_callVr (st' := fun u1 => [.int u1]) K hR [.int p0, .int 3] [] 1 rfl rfl (c_X6_get X.2.1 (gxD X) cy sd a1 a2 5 40 dC p0 3 hw) gX1_isBetter_X6_get rfl yok_X6_get rfl rfl (by decide) rfl (Nat.le_of_ble_eq_true rfl) dX1_isBetter_6 [1, 2] rfl (by decide) (fun _ => rfl) ⟨rfl, rfl⟩ (fun u1 hw => ?_)
  refine g_aload_n K 0 dX1_isBetter_9 rfl ?_
  refine g_get K (C := RX1) (T := TX1) (N := 2) 0 0 in_X1_isBetter_X1 (by decide +kernel) rfl rfl (by decide) rfl dX1_isBetter_10 ?_
  refine g_iload_n K 2 dX1_isBetter_13 rfl ?_
  refine g_iconst (v := 3) K dX1_isBetter_14 rfl ?_
  refine g_callVr (st' := fun u2 => [.int u2, .int u1]) K hR [.int p1, .int 3] [.int u1] 1 rfl rfl (c_X6_get X.2.1 (gxD X) cy sd a1 a2 5 40 dC p1 3 hw) gX1_isBetter_X6_get rfl yok_X6_get rfl rfl (by decide) rfl (Nat.le_of_ble_eq_true rfl) dX1_isBetter_15 [1, 2] rfl (by decide) (fun _ => rfl) ⟨rfl, rfl⟩ (fun u2 hw => ?_)
  refine g_isub K dX1_isBetter_18 ?_
  refine g_topi (fun x3 ex3 => ?_)
  replace hw := hw x3 ex3
  refine g_istore_n (lv' := [(3, .int x3), (0, .ref a0), (1, .int p0), (2, .int p1)]) K dX1_isBetter_19 rfl (by rw [En]; decide) rfl ?_
  refine g_iload_n K 0 dX1_isBetter_20 rfl ?_
  refine g_if_eq (tgt := 36) K dX1_isBetter_21 (by decide) (fun hc => ?_) (fun hc => ?_)
  · replace hw := hw.1 hc
    refine g_aload_n K 1 dX1_isBetter_36 rfl ?_
    refine g_get K (C := RX1) (T := TX1) (N := 2) 0 0 in_X1_isBetter_X1 (by decide +kernel) rfl rfl (by decide) rfl dX1_isBetter_37 ?_
    refine g_iload_n K 2 dX1_isBetter_40 rfl ?_
    refine g_iconst (v := 1) K dX1_isBetter_41 rfl ?_
    refine g_callVr (st' := fun u4 => [.int u4]) K hR [.int p0, .int 1] [] 1 rfl rfl (c_X6_get X.2.1 (gxD X) cy sd a1 a2 5 40 dC p0 1 hw) gX1_isBetter_X6_get rfl yok_X6_get rfl rfl (by decide) rfl (Nat.le_of_ble_eq_true rfl) dX1_isBetter_42 [1, 2] rfl (by decide) (fun _ => rfl) ⟨rfl, rfl⟩ (fun u4 hw => ?_)
    refine g_aload_n K 1 dX1_isBetter_45 rfl ?_
    refine g_get K (C := RX1) (T := TX1) (N := 2) 0 0 in_X1_isBetter_X1 (by decide +kernel) rfl rfl (by decide) rfl dX1_isBetter_46 ?_
    refine g_iload_n K 3 dX1_isBetter_49 rfl ?_
    refine g_iconst (v := 1) K dX1_isBetter_50 rfl ?_
    refine g_callVr (st' := fun u5 => [.int u5, .int u4]) K hR [.int p1, .int 1] [.int u4] 1 rfl rfl (c_X6_get X.2.1 (gxD X) cy sd a1 a2 5 40 dC p1 1 hw) gX1_isBetter_X6_get rfl yok_X6_get rfl rfl (by decide) rfl (Nat.le_of_ble_eq_true rfl) dX1_isBetter_51 [1, 2] rfl (by decide) (fun _ => rfl) ⟨rfl, rfl⟩ (fun u5 hw => ?_)
    refine g_icmp_le (tgt := 61) K dX1_isBetter_54 (by decide) (fun hc => ?_) (fun hc => ?_)
    · replace hw := hw.1 hc
      refine g_iconst (v := 0) K dX1_isBetter_61 rfl ?_
      exact g_zret K E Er false hw rfl rfl rfl (Nat.le_refl _) (Nat.le_refl _) dX1_isBetter_62
    · replace hw := hw.2 hc
      refine g_iconst (v := 1) K dX1_isBetter_57 rfl ?_
      refine g_goto (tgt := 62) K dX1_isBetter_58 (by decide) ?_
      exact g_zret K E Er true hw rfl rfl rfl (Nat.le_refl _) (Nat.le_refl _) dX1_isBetter_62
  · replace hw := hw.2 hc
    refine g_iload_n K 0 dX1_isBetter_24 rfl ?_
    refine g_if_le (tgt := 32) K dX1_isBetter_25 (by decide) (fun hc => ?_) (fun hc => ?_)
    · replace hw := hw.1 hc
      refine g_iconst (v := 0) K dX1_isBetter_32 rfl ?_
      refine g_goto (tgt := 62) K dX1_isBetter_33 (by decide) ?_
      exact g_zret K E Er false hw rfl rfl rfl (Nat.le_refl _) (Nat.le_refl _) dX1_isBetter_62
    · replace hw := hw.2 hc
      refine g_iconst (v := 1) K dX1_isBetter_28 rfl ?_
      refine g_goto (tgt := 62) K dX1_isBetter_29 (by decide) ?_
      exact g_zret K E Er true hw rfl rfl rfl (Nat.le_refl _) (Nat.le_refl _) dX1_isBetter_62

def wp_X1_bestFor_L6 (dC : XRow) (dCc : Int32) (p0 : Int32) (p1 : Int32) (p2 : Int32) (k6_92 : Int32 → Int32 → Prop) : Nat → Int32 → Int32 → Prop
  | 0, _, _ => False
  | fu + 1, v1, v2 => (dCc ≤ v1 → (k6_92 v1 v2)) ∧ (¬ dCc ≤ v1 → (wp_X1_isFor dC v1 p0 (fun u3 : Bool => (u3 = true → (wp_X6_get 5 40 dC v1 1 (fun u5 : Int32 => (p1 < u5 → (∀ x6 : Int32, x6 = v1 + 1 → (wp_X1_bestFor_L6 dC dCc p0 p1 p2 k6_92 fu x6 v2))) ∧ (¬ p1 < u5 → (wp_X6_get 5 40 dC v1 2 (fun u7 : Int32 => (u7 < p2 → (∀ x8 : Int32, x8 = v1 + 1 → (wp_X1_bestFor_L6 dC dCc p0 p1 p2 k6_92 fu x8 v2))) ∧ (¬ u7 < p2 → ((v2 = (-1) → (∀ x9 : Int32, x9 = v1 + 1 → (wp_X1_bestFor_L6 dC dCc p0 p1 p2 k6_92 fu x9 v1))) ∧ (¬ v2 = (-1) → (wp_X1_isBetter dC v1 v2 (fun u10 : Bool => (u10 = true → (∀ x12 : Int32, x12 = v1 + 1 → (wp_X1_bestFor_L6 dC dCc p0 p1 p2 k6_92 fu x12 v1))) ∧ (u10 = false → (∀ x11 : Int32, x11 = v1 + 1 → (wp_X1_bestFor_L6 dC dCc p0 p1 p2 k6_92 fu x11 v2)))))))))))))) ∧ (u3 = false → (∀ x4 : Int32, x4 = v1 + 1 → (wp_X1_bestFor_L6 dC dCc p0 p1 p2 k6_92 fu x4 v2))))))
def wp_X1_bestFor (dC : XRow) (dCc : Int32) (p0 : Int32) (p1 : Int32) (p2 : Int32) (post : Int32 → Prop) : Prop := ∃ fl, wp_X1_bestFor_L6 dC dCc p0 p1 p2 (fun (v13 : Int32) (v14 : Int32) => post v14) fl 0 (-1)
theorem in_X1_bestFor_X1 : ∀ w ∈ u_ws RX1 TX1 2, w ∈ wsX1_bestFor := by decide +kernel
set_option maxRecDepth 100000 in
set_option maxHeartbeats 4000000 in
theorem c_X1_bestFor (l : Launch) (D : va_G) (cy : Nat → ClassId) (sd : xSd) (a0 a1 a2 : Nat) (dC : XRow) (dCc : Int32) (p0 : Int32) (p1 : Int32) (p2 : Int32) {post : Int32 → Prop} (hw : wp_X1_bestFor dC dCc p0 p1 p2 post) : Ctr l D (xTys cy) sd yX1_bestFor wsX1_bestFor ({ frames := 2, cells := 0, slots := 0, locals := 46 } : Room) [.ref a0, .int p0, .int p1, .int p2] (fun u : Int32 => some (.int u)) [(a0, .inr (3, [.ref a1, .int dCc])), (a1, .inr (7, [.int 5, .ref a2])), (a2, .inl (cy 0, 40, .inl dC))] (fun _ => [(a0, .inr (3, [.ref a1, .int dCc])), (a1, .inr (7, [.int 5, .ref a2])), (a2, .inl (cy 0, 40, .inl dC))]) post := by
  refine Ctr.of (cc := cX1_bestFor) (maxL := 7) (ret := (some .int)) (lv0 := [(0, .ref a0), (1, .int p0), (2, .int p1), (3, .int p2)]) (by decide) rfl (Nat.le_of_ble_eq_true rfl) rfl ?_
  intro X El hR Er Enm ED E En K
  have K : Cx X cX1_bestFor RX1 wsX1_bestFor (xTys cy) sd := K
  have E : X.2.2.2.2.2.2.2.2.2.2.1 = xMQ X (fun u : Int32 => some (.int u)) post (fun _ => [(a0, .inr (3, [.ref a1, .int dCc])), (a1, .inr (7, [.int 5, .ref a2])), (a2, .inl (cy 0, 40, .inl dC))]) 0 0 := E
  unfold wp_X1_bestFor at hw
  refine g_iconst (v := (-1)) K dX1_bestFor_0 rfl ?_
  refine g_istore (lv' := [(4, .int (-1)), (0, .ref a0), (1, .int p0), (2, .int p1), (3, .int p2)]) K dX1_bestFor_1 (by rw [En]; decide) rfl ?_
  refine g_iconst (v := 0) K dX1_bestFor_3 rfl ?_
  refine g_istore (lv' := [(5, .int 0), (4, .int (-1)), (0, .ref a0), (1, .int p0), (2, .int p1), (3, .int p2)]) K dX1_bestFor_4 (by rw [En]; decide) rfl ?_
  obtain ⟨fl, hw⟩ := hw
  have key : ∀ (k6_92 : Int32 → Int32 → Prop), (∀ (v1 : Int32) (v2 : Int32), k6_92 v1 v2 → Gx X 0 0 [(a0, .inr (3, [.ref a1, .int dCc])), (a1, .inr (7, [.int 5, .ref a2])), (a2, .inl (cy 0, 40, .inl dC))] [(5, .int v1), (4, .int v2), (0, .ref a0), (1, .int p0), (2, .int p1), (3, .int p2)] 92 []) → ∀ (n : Nat) (v1 : Int32) (v2 : Int32), wp_X1_bestFor_L6 dC dCc p0 p1 p2 k6_92 n v1 v2 → Gx X 0 0 [(a0, .inr (3, [.ref a1, .int dCc])), (a1, .inr (7, [.int 5, .ref a2])), (a2, .inl (cy 0, 40, .inl dC))] [(5, .int v1), (4, .int v2), (0, .ref a0), (1, .int p0), (2, .int p1), (3, .int p2)] 6 [] := by
    intro k6_92 hx92 n
    induction n with
    | zero => intro v1 v2 hw; exact hw.elim
    | succ n ih =>
      intro v1 v2 hw
      refine g_iload K 0 dX1_bestFor_6 rfl ?_
      refine g_aload_n K 2 dX1_bestFor_8 rfl ?_
      refine g_get K (C := RX1) (T := TX1) (N := 2) 0 1 in_X1_bestFor_X1 (by decide +kernel) rfl rfl (by decide) rfl dX1_bestFor_9 ?_
      refine g_icmp_ge (tgt := 92) K dX1_bestFor_12 (by decide) (fun hc => ?_) (fun hc => ?_)
      · replace hw := hw.1 hc
        exact hx92 _ _ hw
      · replace hw := hw.2 hc
        refine g_aload_n K 2 dX1_bestFor_15 rfl ?_
        refine g_iload K 0 dX1_bestFor_16 rfl ?_
        refine g_iload_n K 3 dX1_bestFor_18 rfl ?_
        refine g_callVr (st' := fun u3 => [.int (bI u3)]) K hR [.int v1, .int p0] [] 0 rfl rfl (c_X1_isFor X.2.1 (gxD X) cy sd a0 a1 a2 dC dCc v1 p0 hw) gX1_bestFor_X1_isFor rfl yok_X1_isFor rfl rfl (by decide) rfl (Nat.le_of_ble_eq_true rfl) dX1_bestFor_19 [0, 1, 2] rfl (by decide) (fun _ => rfl) ⟨rfl, rfl⟩ (fun u3 hw => ?_)
        refine g_ifb_eq (tgt := 57) K dX1_bestFor_22 (by decide) (fun hc => ?_) (fun hc => ?_)
        · replace hw := hw.2 hc
          refine g_iconst (v := 0) K dX1_bestFor_57 rfl ?_
          refine g_istore (lv' := [(6, .int 0), (5, .int v1), (4, .int v2), (0, .ref a0), (1, .int p0), (2, .int p1), (3, .int p2)]) K dX1_bestFor_58 (by rw [En]; decide) rfl ?_
          refine g_iload K 0 dX1_bestFor_60 rfl ?_
          refine g_if_eq (tgt := 86) K dX1_bestFor_62 (by decide) (fun _ => ?_) (fun hc => absurd (by decide) hc)
          obtain ⟨x4, ex4⟩ : ∃ z : Int32, z = v1 + 1 := ⟨_, rfl⟩
          replace hw := hw x4 ex4
          refine g_iinc (v := x4) (lv' := [(5, .int x4), (6, .int 0), (4, .int v2), (0, .ref a0), (1, .int p0), (2, .int p1), (3, .int p2)]) K 1 dX1_bestFor_86 rfl (by rw [ex4]; rfl) (by rw [En]; decide) rfl ?_
          refine g_goto (tgt := 6) K dX1_bestFor_89 (by decide) ?_
          refine gx_locals [0, 2, 3, 4, 5, 6] rfl ?_
          exact ih _ _ hw
        · replace hw := hw.1 hc
          refine g_iload_n K 4 dX1_bestFor_25 rfl ?_
          refine g_aload_n K 2 dX1_bestFor_26 rfl ?_
          refine g_get K (C := RX1) (T := TX1) (N := 2) 0 0 in_X1_bestFor_X1 (by decide +kernel) rfl rfl (by decide) rfl dX1_bestFor_27 ?_
          refine g_iload K 0 dX1_bestFor_30 rfl ?_
          refine g_iconst (v := 1) K dX1_bestFor_32 rfl ?_
          refine g_callVr (st' := fun u5 => [.int u5, .int p1]) K hR [.int v1, .int 1] [.int p1] 1 rfl rfl (c_X6_get X.2.1 (gxD X) cy sd a1 a2 5 40 dC v1 1 hw) gX1_bestFor_X6_get rfl yok_X6_get rfl rfl (by decide) rfl (Nat.le_of_ble_eq_true rfl) dX1_bestFor_33 [1, 2] rfl (by decide) (fun _ => rfl) ⟨rfl, rfl⟩ (fun u5 hw => ?_)
          refine g_icmp_lt (tgt := 57) K dX1_bestFor_36 (by decide) (fun hc => ?_) (fun hc => ?_)
          · replace hw := hw.1 hc
            refine g_iconst (v := 0) K dX1_bestFor_57 rfl ?_
            refine g_istore (lv' := [(6, .int 0), (5, .int v1), (4, .int v2), (0, .ref a0), (1, .int p0), (2, .int p1), (3, .int p2)]) K dX1_bestFor_58 (by rw [En]; decide) rfl ?_
            refine g_iload K 0 dX1_bestFor_60 rfl ?_
            refine g_if_eq (tgt := 86) K dX1_bestFor_62 (by decide) (fun _ => ?_) (fun hc => absurd (by decide) hc)
            obtain ⟨x6, ex6⟩ : ∃ z : Int32, z = v1 + 1 := ⟨_, rfl⟩
            replace hw := hw x6 ex6
            refine g_iinc (v := x6) (lv' := [(5, .int x6), (6, .int 0), (4, .int v2), (0, .ref a0), (1, .int p0), (2, .int p1), (3, .int p2)]) K 1 dX1_bestFor_86 rfl (by rw [ex6]; rfl) (by rw [En]; decide) rfl ?_
            refine g_goto (tgt := 6) K dX1_bestFor_89 (by decide) ?_
            refine gx_locals [0, 2, 3, 4, 5, 6] rfl ?_
            exact ih _ _ hw
          · replace hw := hw.2 hc
            refine g_iload_n K 5 dX1_bestFor_39 rfl ?_
            refine g_aload_n K 2 dX1_bestFor_40 rfl ?_
            refine g_get K (C := RX1) (T := TX1) (N := 2) 0 0 in_X1_bestFor_X1 (by decide +kernel) rfl rfl (by decide) rfl dX1_bestFor_41 ?_
            refine g_iload K 0 dX1_bestFor_44 rfl ?_
            refine g_iconst (v := 2) K dX1_bestFor_46 rfl ?_
            refine g_callVr (st' := fun u7 => [.int u7, .int p2]) K hR [.int v1, .int 2] [.int p2] 1 rfl rfl (c_X6_get X.2.1 (gxD X) cy sd a1 a2 5 40 dC v1 2 hw) gX1_bestFor_X6_get rfl yok_X6_get rfl rfl (by decide) rfl (Nat.le_of_ble_eq_true rfl) dX1_bestFor_47 [1, 2] rfl (by decide) (fun _ => rfl) ⟨rfl, rfl⟩ (fun u7 hw => ?_)
            refine g_icmp_gt (tgt := 57) K dX1_bestFor_50 (by decide) (fun hc => ?_) (fun hc => ?_)
            · replace hw := hw.1 hc
              refine g_iconst (v := 0) K dX1_bestFor_57 rfl ?_
              refine g_istore (lv' := [(6, .int 0), (5, .int v1), (4, .int v2), (0, .ref a0), (1, .int p0), (2, .int p1), (3, .int p2)]) K dX1_bestFor_58 (by rw [En]; decide) rfl ?_
              refine g_iload K 0 dX1_bestFor_60 rfl ?_
              refine g_if_eq (tgt := 86) K dX1_bestFor_62 (by decide) (fun _ => ?_) (fun hc => absurd (by decide) hc)
              obtain ⟨x8, ex8⟩ : ∃ z : Int32, z = v1 + 1 := ⟨_, rfl⟩
              replace hw := hw x8 ex8
              refine g_iinc (v := x8) (lv' := [(5, .int x8), (6, .int 0), (4, .int v2), (0, .ref a0), (1, .int p0), (2, .int p1), (3, .int p2)]) K 1 dX1_bestFor_86 rfl (by rw [ex8]; rfl) (by rw [En]; decide) rfl ?_
              refine g_goto (tgt := 6) K dX1_bestFor_89 (by decide) ?_
              refine gx_locals [0, 2, 3, 4, 5, 6] rfl ?_
              exact ih _ _ hw
            · replace hw := hw.2 hc
              refine g_iconst (v := 1) K dX1_bestFor_53 rfl ?_
              refine g_goto (tgt := 58) K dX1_bestFor_54 (by decide) ?_
              refine g_istore (lv' := [(6, .int 1), (5, .int v1), (4, .int v2), (0, .ref a0), (1, .int p0), (2, .int p1), (3, .int p2)]) K dX1_bestFor_58 (by rw [En]; decide) rfl ?_
              refine g_iload K 0 dX1_bestFor_60 rfl ?_
              refine g_if_eq (tgt := 86) K dX1_bestFor_62 (by decide) (fun hc => absurd hc (by decide)) (fun _ => ?_)
              refine g_iload K 2 dX1_bestFor_65 rfl ?_
              refine g_iconst (v := (-1)) K dX1_bestFor_67 rfl ?_
              refine g_icmp_eq (tgt := 82) K dX1_bestFor_68 (by decide) (fun hc => ?_) (fun hc => ?_)
              · replace hw := hw.1 hc
                refine g_iload K 1 dX1_bestFor_82 rfl ?_
                refine g_istore (lv' := [(4, .int v1), (6, .int 1), (5, .int v1), (0, .ref a0), (1, .int p0), (2, .int p1), (3, .int p2)]) K dX1_bestFor_84 (by rw [En]; decide) rfl ?_
                obtain ⟨x9, ex9⟩ : ∃ z : Int32, z = v1 + 1 := ⟨_, rfl⟩
                replace hw := hw x9 ex9
                refine g_iinc (v := x9) (lv' := [(5, .int x9), (4, .int v1), (6, .int 1), (0, .ref a0), (1, .int p0), (2, .int p1), (3, .int p2)]) K 2 dX1_bestFor_86 rfl (by rw [ex9]; rfl) (by rw [En]; decide) rfl ?_
                refine g_goto (tgt := 6) K dX1_bestFor_89 (by decide) ?_
                refine gx_locals [0, 1, 3, 4, 5, 6] rfl ?_
                exact ih _ _ hw
              · replace hw := hw.2 hc
                refine g_aload_n K 3 dX1_bestFor_71 rfl ?_
                refine g_iload K 1 dX1_bestFor_72 rfl ?_
                refine g_iload K 2 dX1_bestFor_74 rfl ?_
                refine g_callVr (st' := fun u10 => [.int (bI u10)]) K hR [.int v1, .int v2] [] 0 rfl rfl (c_X1_isBetter X.2.1 (gxD X) cy sd a0 a1 a2 dC dCc v1 v2 hw) gX1_bestFor_X1_isBetter rfl yok_X1_isBetter rfl rfl (by decide) rfl (Nat.le_of_ble_eq_true rfl) dX1_bestFor_76 [0, 1, 2] rfl (by decide) (fun _ => rfl) ⟨rfl, rfl⟩ (fun u10 hw => ?_)
                refine g_ifb_eq (tgt := 86) K dX1_bestFor_79 (by decide) (fun hc => ?_) (fun hc => ?_)
                · replace hw := hw.2 hc
                  obtain ⟨x11, ex11⟩ : ∃ z : Int32, z = v1 + 1 := ⟨_, rfl⟩
                  replace hw := hw x11 ex11
                  refine g_iinc (v := x11) (lv' := [(5, .int x11), (6, .int 1), (4, .int v2), (0, .ref a0), (1, .int p0), (2, .int p1), (3, .int p2)]) K 1 dX1_bestFor_86 rfl (by rw [ex11]; rfl) (by rw [En]; decide) rfl ?_
                  refine g_goto (tgt := 6) K dX1_bestFor_89 (by decide) ?_
                  refine gx_locals [0, 2, 3, 4, 5, 6] rfl ?_
                  exact ih _ _ hw
                · replace hw := hw.1 hc
                  refine g_iload K 1 dX1_bestFor_82 rfl ?_
                  refine g_istore (lv' := [(4, .int v1), (6, .int 1), (5, .int v1), (0, .ref a0), (1, .int p0), (2, .int p1), (3, .int p2)]) K dX1_bestFor_84 (by rw [En]; decide) rfl ?_
                  obtain ⟨x12, ex12⟩ : ∃ z : Int32, z = v1 + 1 := ⟨_, rfl⟩
                  replace hw := hw x12 ex12
                  refine g_iinc (v := x12) (lv' := [(5, .int x12), (4, .int v1), (6, .int 1), (0, .ref a0), (1, .int p0), (2, .int p1), (3, .int p2)]) K 2 dX1_bestFor_86 rfl (by rw [ex12]; rfl) (by rw [En]; decide) rfl ?_
                  refine g_goto (tgt := 6) K dX1_bestFor_89 (by decide) ?_
                  refine gx_locals [0, 1, 3, 4, 5, 6] rfl ?_
                  exact ih _ _ hw
  refine key _ (fun v13 v14 hw => ?_) fl _ _ hw
  refine g_iload K 1 dX1_bestFor_92 rfl ?_
  exact g_zret K E Er v14 hw rfl rfl rfl (Nat.le_refl _) (Nat.le_refl _) dX1_bestFor_94

def wp_X1_leastFloor_L4 (dC : XRow) (dCc : Int32) (p0 : Int32) (k4_52 : Int32 → Int32 → Prop) : Nat → Int32 → Int32 → Prop
  | 0, _, _ => False
  | fu + 1, v1, v2 => (dCc ≤ v1 → (k4_52 v1 v2)) ∧ (¬ dCc ≤ v1 → (wp_X6_get 5 40 dC v1 1 (fun u3 : Int32 => wp_X1_isFor dC v1 p0 (fun u4 : Bool => (u4 = true → ((v2 = (-1) → (∀ x6 : Int32, x6 = v1 + 1 → (wp_X1_leastFloor_L4 dC dCc p0 k4_52 fu x6 u3))) ∧ (¬ v2 = (-1) → ((v2 ≤ u3 → (∀ x7 : Int32, x7 = v1 + 1 → (wp_X1_leastFloor_L4 dC dCc p0 k4_52 fu x7 v2))) ∧ (¬ v2 ≤ u3 → (∀ x8 : Int32, x8 = v1 + 1 → (wp_X1_leastFloor_L4 dC dCc p0 k4_52 fu x8 u3))))))) ∧ (u4 = false → (∀ x5 : Int32, x5 = v1 + 1 → (wp_X1_leastFloor_L4 dC dCc p0 k4_52 fu x5 v2)))))))
def wp_X1_leastFloor (dC : XRow) (dCc : Int32) (p0 : Int32) (post : Int32 → Prop) : Prop := ∃ fl, wp_X1_leastFloor_L4 dC dCc p0 (fun (v9 : Int32) (v10 : Int32) => post v10) fl 0 (-1)
theorem in_X1_leastFloor_X1 : ∀ w ∈ u_ws RX1 TX1 2, w ∈ wsX1_leastFloor := by decide +kernel
set_option maxRecDepth 100000 in
set_option maxHeartbeats 4000000 in
theorem c_X1_leastFloor (l : Launch) (D : va_G) (cy : Nat → ClassId) (sd : xSd) (a0 a1 a2 : Nat) (dC : XRow) (dCc : Int32) (p0 : Int32) {post : Int32 → Prop} (hw : wp_X1_leastFloor dC dCc p0 post) : Ctr l D (xTys cy) sd yX1_leastFloor wsX1_leastFloor ({ frames := 2, cells := 0, slots := 0, locals := 45 } : Room) [.ref a0, .int p0] (fun u : Int32 => some (.int u)) [(a0, .inr (3, [.ref a1, .int dCc])), (a1, .inr (7, [.int 5, .ref a2])), (a2, .inl (cy 0, 40, .inl dC))] (fun _ => [(a0, .inr (3, [.ref a1, .int dCc])), (a1, .inr (7, [.int 5, .ref a2])), (a2, .inl (cy 0, 40, .inl dC))]) post := by
  refine Ctr.of (cc := cX1_leastFloor) (maxL := 5) (ret := (some .int)) (lv0 := [(0, .ref a0), (1, .int p0)]) (by decide) rfl (Nat.le_of_ble_eq_true rfl) rfl ?_
  intro X El hR Er Enm ED E En K
  have K : Cx X cX1_leastFloor RX1 wsX1_leastFloor (xTys cy) sd := K
  have E : X.2.2.2.2.2.2.2.2.2.2.1 = xMQ X (fun u : Int32 => some (.int u)) post (fun _ => [(a0, .inr (3, [.ref a1, .int dCc])), (a1, .inr (7, [.int 5, .ref a2])), (a2, .inl (cy 0, 40, .inl dC))]) 0 0 := E
  unfold wp_X1_leastFloor at hw
  refine g_iconst (v := (-1)) K dX1_leastFloor_0 rfl ?_
  refine g_istore_n (lv' := [(2, .int (-1)), (0, .ref a0), (1, .int p0)]) K dX1_leastFloor_1 rfl (by rw [En]; decide) rfl ?_
  refine g_iconst (v := 0) K dX1_leastFloor_2 rfl ?_
  refine g_istore_n (lv' := [(3, .int 0), (2, .int (-1)), (0, .ref a0), (1, .int p0)]) K dX1_leastFloor_3 rfl (by rw [En]; decide) rfl ?_
  obtain ⟨fl, hw⟩ := hw
  have key : ∀ (k4_52 : Int32 → Int32 → Prop), (∀ (v1 : Int32) (v2 : Int32), k4_52 v1 v2 → Gx X 0 0 [(a0, .inr (3, [.ref a1, .int dCc])), (a1, .inr (7, [.int 5, .ref a2])), (a2, .inl (cy 0, 40, .inl dC))] [(3, .int v1), (2, .int v2), (0, .ref a0), (1, .int p0)] 52 []) → ∀ (n : Nat) (v1 : Int32) (v2 : Int32), wp_X1_leastFloor_L4 dC dCc p0 k4_52 n v1 v2 → Gx X 0 0 [(a0, .inr (3, [.ref a1, .int dCc])), (a1, .inr (7, [.int 5, .ref a2])), (a2, .inl (cy 0, 40, .inl dC))] [(3, .int v1), (2, .int v2), (0, .ref a0), (1, .int p0)] 4 [] := by
    intro k4_52 hx52 n
    induction n with
    | zero => intro v1 v2 hw; exact hw.elim
    | succ n ih =>
      intro v1 v2 hw
      refine g_iload_n K 0 dX1_leastFloor_4 rfl ?_
      refine g_aload_n K 2 dX1_leastFloor_5 rfl ?_
      refine g_get K (C := RX1) (T := TX1) (N := 2) 0 1 in_X1_leastFloor_X1 (by decide +kernel) rfl rfl (by decide) rfl dX1_leastFloor_6 ?_
      refine g_icmp_ge (tgt := 52) K dX1_leastFloor_9 (by decide) (fun hc => ?_) (fun hc => ?_)
      · replace hw := hw.1 hc
        exact hx52 _ _ hw
      · replace hw := hw.2 hc
        refine g_aload_n K 2 dX1_leastFloor_12 rfl ?_
        refine g_get K (C := RX1) (T := TX1) (N := 2) 0 0 in_X1_leastFloor_X1 (by decide +kernel) rfl rfl (by decide) rfl dX1_leastFloor_13 ?_
        refine g_iload_n K 0 dX1_leastFloor_16 rfl ?_
        refine g_iconst (v := 1) K dX1_leastFloor_17 rfl ?_
        refine g_callVr (st' := fun u3 => [.int u3]) K hR [.int v1, .int 1] [] 1 rfl rfl (c_X6_get X.2.1 (gxD X) cy sd a1 a2 5 40 dC v1 1 hw) gX1_leastFloor_X6_get rfl yok_X6_get rfl rfl (by decide) rfl (Nat.le_of_ble_eq_true rfl) dX1_leastFloor_18 [1, 2] rfl (by decide) (fun _ => rfl) ⟨rfl, rfl⟩ (fun u3 hw => ?_)
        refine g_istore (lv' := [(4, .int u3), (3, .int v1), (2, .int v2), (0, .ref a0), (1, .int p0)]) K dX1_leastFloor_21 (by rw [En]; decide) rfl ?_
        refine g_aload_n K 3 dX1_leastFloor_23 rfl ?_
        refine g_iload_n K 1 dX1_leastFloor_24 rfl ?_
        refine g_iload_n K 4 dX1_leastFloor_25 rfl ?_
        refine g_callVr (st' := fun u4 => [.int (bI u4)]) K hR [.int v1, .int p0] [] 0 rfl rfl (c_X1_isFor X.2.1 (gxD X) cy sd a0 a1 a2 dC dCc v1 p0 hw) gX1_leastFloor_X1_isFor rfl yok_X1_isFor rfl rfl (by decide) rfl (Nat.le_of_ble_eq_true rfl) dX1_leastFloor_26 [0, 1, 2] rfl (by decide) (fun _ => rfl) ⟨rfl, rfl⟩ (fun u4 hw => ?_)
        refine g_ifb_eq (tgt := 46) K dX1_leastFloor_29 (by decide) (fun hc => ?_) (fun hc => ?_)
        · replace hw := hw.2 hc
          obtain ⟨x5, ex5⟩ : ∃ z : Int32, z = v1 + 1 := ⟨_, rfl⟩
          replace hw := hw x5 ex5
          refine g_iinc (v := x5) (lv' := [(3, .int x5), (4, .int u3), (2, .int v2), (0, .ref a0), (1, .int p0)]) K 1 dX1_leastFloor_46 rfl (by rw [ex5]; rfl) (by rw [En]; decide) rfl ?_
          refine g_goto (tgt := 4) K dX1_leastFloor_49 (by decide) ?_
          refine gx_locals [0, 2, 3, 4] rfl ?_
          exact ih _ _ hw
        · replace hw := hw.1 hc
          refine g_iload_n K 2 dX1_leastFloor_32 rfl ?_
          refine g_iconst (v := (-1)) K dX1_leastFloor_33 rfl ?_
          refine g_icmp_eq (tgt := 43) K dX1_leastFloor_34 (by decide) (fun hc => ?_) (fun hc => ?_)
          · replace hw := hw.1 hc
            refine g_iload K 0 dX1_leastFloor_43 rfl ?_
            refine g_istore_n (lv' := [(2, .int u3), (4, .int u3), (3, .int v1), (0, .ref a0), (1, .int p0)]) K dX1_leastFloor_45 rfl (by rw [En]; decide) rfl ?_
            obtain ⟨x6, ex6⟩ : ∃ z : Int32, z = v1 + 1 := ⟨_, rfl⟩
            replace hw := hw x6 ex6
            refine g_iinc (v := x6) (lv' := [(3, .int x6), (2, .int u3), (4, .int u3), (0, .ref a0), (1, .int p0)]) K 2 dX1_leastFloor_46 rfl (by rw [ex6]; rfl) (by rw [En]; decide) rfl ?_
            refine g_goto (tgt := 4) K dX1_leastFloor_49 (by decide) ?_
            refine gx_locals [0, 1, 3, 4] rfl ?_
            exact ih _ _ hw
          · replace hw := hw.2 hc
            refine g_iload K 0 dX1_leastFloor_37 rfl ?_
            refine g_iload_n K 2 dX1_leastFloor_39 rfl ?_
            refine g_icmp_ge (tgt := 46) K dX1_leastFloor_40 (by decide) (fun hc => ?_) (fun hc => ?_)
            · replace hw := hw.1 hc
              obtain ⟨x7, ex7⟩ : ∃ z : Int32, z = v1 + 1 := ⟨_, rfl⟩
              replace hw := hw x7 ex7
              refine g_iinc (v := x7) (lv' := [(3, .int x7), (4, .int u3), (2, .int v2), (0, .ref a0), (1, .int p0)]) K 1 dX1_leastFloor_46 rfl (by rw [ex7]; rfl) (by rw [En]; decide) rfl ?_
              refine g_goto (tgt := 4) K dX1_leastFloor_49 (by decide) ?_
              refine gx_locals [0, 2, 3, 4] rfl ?_
              exact ih _ _ hw
            · replace hw := hw.2 hc
              refine g_iload K 0 dX1_leastFloor_43 rfl ?_
              refine g_istore_n (lv' := [(2, .int u3), (4, .int u3), (3, .int v1), (0, .ref a0), (1, .int p0)]) K dX1_leastFloor_45 rfl (by rw [En]; decide) rfl ?_
              obtain ⟨x8, ex8⟩ : ∃ z : Int32, z = v1 + 1 := ⟨_, rfl⟩
              replace hw := hw x8 ex8
              refine g_iinc (v := x8) (lv' := [(3, .int x8), (2, .int u3), (4, .int u3), (0, .ref a0), (1, .int p0)]) K 2 dX1_leastFloor_46 rfl (by rw [ex8]; rfl) (by rw [En]; decide) rfl ?_
              refine g_goto (tgt := 4) K dX1_leastFloor_49 (by decide) ?_
              refine gx_locals [0, 1, 3, 4] rfl ?_
              exact ih _ _ hw
  refine key _ (fun v9 v10 hw => ?_) fl _ _ hw
  refine g_iload_n K 1 dX1_leastFloor_52 rfl ?_
  exact g_zret K E Er v10 hw rfl rfl rfl (Nat.le_refl _) (Nat.le_refl _) dX1_leastFloor_53

def wp_X1_mostWanted_L5 (dC : XRow) (dCc : Int32) (p0 : Int32) (p1 : Int32) (k5_59 : Int32 → Int32 → Prop) : Nat → Int32 → Int32 → Prop
  | 0, _, _ => False
  | fu + 1, v1, v2 => (dCc ≤ v1 → (k5_59 v1 v2)) ∧ (¬ dCc ≤ v1 → (wp_X1_isFor dC v1 p0 (fun u3 : Bool => (u3 = true → (wp_X6_get 5 40 dC v1 1 (fun u5 : Int32 => (p1 < u5 → (∀ x6 : Int32, x6 = v1 + 1 → (wp_X1_mostWanted_L5 dC dCc p0 p1 k5_59 fu x6 v2))) ∧ (¬ p1 < u5 → (wp_X6_get 5 40 dC v1 2 (fun u7 : Int32 => ∀ x8 : Int32, x8 = xMax v2 u7 → (∀ x9 : Int32, x9 = v1 + 1 → (wp_X1_mostWanted_L5 dC dCc p0 p1 k5_59 fu x9 x8)))))))) ∧ (u3 = false → (∀ x4 : Int32, x4 = v1 + 1 → (wp_X1_mostWanted_L5 dC dCc p0 p1 k5_59 fu x4 v2))))))
def wp_X1_mostWanted (dC : XRow) (dCc : Int32) (p0 : Int32) (p1 : Int32) (post : Int32 → Prop) : Prop := ∃ fl, wp_X1_mostWanted_L5 dC dCc p0 p1 (fun (v10 : Int32) (v11 : Int32) => post v11) fl 0 0
theorem in_X1_mostWanted_X1 : ∀ w ∈ u_ws RX1 TX1 2, w ∈ wsX1_mostWanted := by decide +kernel
set_option maxRecDepth 100000 in
set_option maxHeartbeats 4000000 in
theorem c_X1_mostWanted (l : Launch) (D : va_G) (cy : Nat → ClassId) (sd : xSd) (a0 a1 a2 : Nat) (dC : XRow) (dCc : Int32) (p0 : Int32) (p1 : Int32) {post : Int32 → Prop} (hw : wp_X1_mostWanted dC dCc p0 p1 post) : Ctr l D (xTys cy) sd yX1_mostWanted wsX1_mostWanted ({ frames := 2, cells := 0, slots := 0, locals := 45 } : Room) [.ref a0, .int p0, .int p1] (fun u : Int32 => some (.int u)) [(a0, .inr (3, [.ref a1, .int dCc])), (a1, .inr (7, [.int 5, .ref a2])), (a2, .inl (cy 0, 40, .inl dC))] (fun _ => [(a0, .inr (3, [.ref a1, .int dCc])), (a1, .inr (7, [.int 5, .ref a2])), (a2, .inl (cy 0, 40, .inl dC))]) post := by
  refine Ctr.of (cc := cX1_mostWanted) (maxL := 5) (ret := (some .int)) (lv0 := [(0, .ref a0), (1, .int p0), (2, .int p1)]) (by decide) rfl (Nat.le_of_ble_eq_true rfl) rfl ?_
  intro X El hR Er Enm ED E En K
  have K : Cx X cX1_mostWanted RX1 wsX1_mostWanted (xTys cy) sd := K
  have E : X.2.2.2.2.2.2.2.2.2.2.1 = xMQ X (fun u : Int32 => some (.int u)) post (fun _ => [(a0, .inr (3, [.ref a1, .int dCc])), (a1, .inr (7, [.int 5, .ref a2])), (a2, .inl (cy 0, 40, .inl dC))]) 0 0 := E
  unfold wp_X1_mostWanted at hw
  refine g_iconst (v := 0) K dX1_mostWanted_0 rfl ?_
  refine g_istore_n (lv' := [(3, .int 0), (0, .ref a0), (1, .int p0), (2, .int p1)]) K dX1_mostWanted_1 rfl (by rw [En]; decide) rfl ?_
  refine g_iconst (v := 0) K dX1_mostWanted_2 rfl ?_
  refine g_istore (lv' := [(4, .int 0), (3, .int 0), (0, .ref a0), (1, .int p0), (2, .int p1)]) K dX1_mostWanted_3 (by rw [En]; decide) rfl ?_
  obtain ⟨fl, hw⟩ := hw
  have key : ∀ (k5_59 : Int32 → Int32 → Prop), (∀ (v1 : Int32) (v2 : Int32), k5_59 v1 v2 → Gx X 0 0 [(a0, .inr (3, [.ref a1, .int dCc])), (a1, .inr (7, [.int 5, .ref a2])), (a2, .inl (cy 0, 40, .inl dC))] [(4, .int v1), (3, .int v2), (0, .ref a0), (1, .int p0), (2, .int p1)] 59 []) → ∀ (n : Nat) (v1 : Int32) (v2 : Int32), wp_X1_mostWanted_L5 dC dCc p0 p1 k5_59 n v1 v2 → Gx X 0 0 [(a0, .inr (3, [.ref a1, .int dCc])), (a1, .inr (7, [.int 5, .ref a2])), (a2, .inl (cy 0, 40, .inl dC))] [(4, .int v1), (3, .int v2), (0, .ref a0), (1, .int p0), (2, .int p1)] 5 [] := by
    intro k5_59 hx59 n
    induction n with
    | zero => intro v1 v2 hw; exact hw.elim
    | succ n ih =>
      intro v1 v2 hw
      refine g_iload K 0 dX1_mostWanted_5 rfl ?_
      refine g_aload_n K 2 dX1_mostWanted_7 rfl ?_
      refine g_get K (C := RX1) (T := TX1) (N := 2) 0 1 in_X1_mostWanted_X1 (by decide +kernel) rfl rfl (by decide) rfl dX1_mostWanted_8 ?_
      refine g_icmp_ge (tgt := 59) K dX1_mostWanted_11 (by decide) (fun hc => ?_) (fun hc => ?_)
      · replace hw := hw.1 hc
        exact hx59 _ _ hw
      · replace hw := hw.2 hc
        refine g_aload_n K 2 dX1_mostWanted_14 rfl ?_
        refine g_iload K 0 dX1_mostWanted_15 rfl ?_
        refine g_iload_n K 3 dX1_mostWanted_17 rfl ?_
        refine g_callVr (st' := fun u3 => [.int (bI u3)]) K hR [.int v1, .int p0] [] 0 rfl rfl (c_X1_isFor X.2.1 (gxD X) cy sd a0 a1 a2 dC dCc v1 p0 hw) gX1_mostWanted_X1_isFor rfl yok_X1_isFor rfl rfl (by decide) rfl (Nat.le_of_ble_eq_true rfl) dX1_mostWanted_18 [0, 1, 2] rfl (by decide) (fun _ => rfl) ⟨rfl, rfl⟩ (fun u3 hw => ?_)
        refine g_ifb_eq (tgt := 53) K dX1_mostWanted_21 (by decide) (fun hc => ?_) (fun hc => ?_)
        · replace hw := hw.2 hc
          obtain ⟨x4, ex4⟩ : ∃ z : Int32, z = v1 + 1 := ⟨_, rfl⟩
          replace hw := hw x4 ex4
          refine g_iinc (v := x4) (lv' := [(4, .int x4), (3, .int v2), (0, .ref a0), (1, .int p0), (2, .int p1)]) K 0 dX1_mostWanted_53 rfl (by rw [ex4]; rfl) (by rw [En]; decide) rfl ?_
          refine g_goto (tgt := 5) K dX1_mostWanted_56 (by decide) ?_
          exact ih _ _ hw
        · replace hw := hw.1 hc
          refine g_iload_n K 4 dX1_mostWanted_24 rfl ?_
          refine g_aload_n K 2 dX1_mostWanted_25 rfl ?_
          refine g_get K (C := RX1) (T := TX1) (N := 2) 0 0 in_X1_mostWanted_X1 (by decide +kernel) rfl rfl (by decide) rfl dX1_mostWanted_26 ?_
          refine g_iload K 0 dX1_mostWanted_29 rfl ?_
          refine g_iconst (v := 1) K dX1_mostWanted_31 rfl ?_
          refine g_callVr (st' := fun u5 => [.int u5, .int p1]) K hR [.int v1, .int 1] [.int p1] 1 rfl rfl (c_X6_get X.2.1 (gxD X) cy sd a1 a2 5 40 dC v1 1 hw) gX1_mostWanted_X6_get rfl yok_X6_get rfl rfl (by decide) rfl (Nat.le_of_ble_eq_true rfl) dX1_mostWanted_32 [1, 2] rfl (by decide) (fun _ => rfl) ⟨rfl, rfl⟩ (fun u5 hw => ?_)
          refine g_icmp_lt (tgt := 53) K dX1_mostWanted_35 (by decide) (fun hc => ?_) (fun hc => ?_)
          · replace hw := hw.1 hc
            obtain ⟨x6, ex6⟩ : ∃ z : Int32, z = v1 + 1 := ⟨_, rfl⟩
            replace hw := hw x6 ex6
            refine g_iinc (v := x6) (lv' := [(4, .int x6), (3, .int v2), (0, .ref a0), (1, .int p0), (2, .int p1)]) K 0 dX1_mostWanted_53 rfl (by rw [ex6]; rfl) (by rw [En]; decide) rfl ?_
            refine g_goto (tgt := 5) K dX1_mostWanted_56 (by decide) ?_
            exact ih _ _ hw
          · replace hw := hw.2 hc
            refine g_iload_n K 1 dX1_mostWanted_38 rfl ?_
            refine g_aload_n K 2 dX1_mostWanted_39 rfl ?_
            refine g_get K (C := RX1) (T := TX1) (N := 2) 0 0 in_X1_mostWanted_X1 (by decide +kernel) rfl rfl (by decide) rfl dX1_mostWanted_40 ?_
            refine g_iload K 0 dX1_mostWanted_43 rfl ?_
            refine g_iconst (v := 2) K dX1_mostWanted_45 rfl ?_
            refine g_callVr (st' := fun u7 => [.int u7, .int v2]) K hR [.int v1, .int 2] [.int v2] 1 rfl rfl (c_X6_get X.2.1 (gxD X) cy sd a1 a2 5 40 dC v1 2 hw) gX1_mostWanted_X6_get rfl yok_X6_get rfl rfl (by decide) rfl (Nat.le_of_ble_eq_true rfl) dX1_mostWanted_46 [1, 2] rfl (by decide) (fun _ => rfl) ⟨rfl, rfl⟩ (fun u7 hw => ?_)
            refine g_mmax K hR (by decide +kernel) (by decide +kernel) (by decide +kernel) (by decide +kernel) (by decide) (Nat.le_of_ble_eq_true rfl) dX1_mostWanted_49 ?_
            refine g_topi (fun x8 ex8 => ?_)
            replace hw := hw x8 ex8
            refine g_istore_n (lv' := [(3, .int x8), (4, .int v1), (0, .ref a0), (1, .int p0), (2, .int p1)]) K dX1_mostWanted_52 rfl (by rw [En]; decide) rfl ?_
            obtain ⟨x9, ex9⟩ : ∃ z : Int32, z = v1 + 1 := ⟨_, rfl⟩
            replace hw := hw x9 ex9
            refine g_iinc (v := x9) (lv' := [(4, .int x9), (3, .int x8), (0, .ref a0), (1, .int p0), (2, .int p1)]) K 1 dX1_mostWanted_53 rfl (by rw [ex9]; rfl) (by rw [En]; decide) rfl ?_
            refine g_goto (tgt := 5) K dX1_mostWanted_56 (by decide) ?_
            exact ih _ _ hw
  refine key _ (fun v10 v11 hw => ?_) fl _ _ hw
  refine g_iload_n K 1 dX1_mostWanted_59 rfl ?_
  exact g_zret K E Er v11 hw rfl rfl rfl (Nat.le_refl _) (Nat.le_refl _) dX1_mostWanted_60

def wp_X5_fill (rP : XRow) (p0 : Int32) (p1 : Int32) (p2 : Int32) (post : XRow → Prop) : Prop := wp_X6_put 2 6 rP p0 0 p1 (fun u1 : XRow => wp_X6_put 2 6 u1 p0 1 p2 (fun u2 : XRow => post u2))
theorem in_X5_fill_X5 : ∀ w ∈ u_ws RX5 TX5 2, w ∈ wsX5_fill := by decide +kernel
set_option maxRecDepth 100000 in
set_option maxHeartbeats 4000000 in
theorem c_X5_fill (l : Launch) (D : va_G) (cy : Nat → ClassId) (sd : xSd) (a0 a1 a2 : Nat) (rP : XRow) (rL : Int32) (p0 : Int32) (p1 : Int32) (p2 : Int32) {post : XRow → Prop} (hw : wp_X5_fill rP p0 p1 p2 post) : Ctr l D (xTys cy) sd yX5_fill wsX5_fill ({ frames := 1, cells := 0, slots := 0, locals := 24 } : Room) [.ref a0, .int p0, .int p1, .int p2] (fun u : XRow => none) [(a0, .inr (6, [.ref a1, .int rL])), (a1, .inr (7, [.int 2, .ref a2])), (a2, .inl (cy 0, 6, .inl rP))] (fun u => [(a0, .inr (6, [.ref a1, .int rL])), (a1, .inr (7, [.int 2, .ref a2])), (a2, .inl (cy 0, 6, .inl u))]) post := by
  refine Ctr.of (cc := cX5_fill) (maxL := 4) (ret := none) (lv0 := [(0, .ref a0), (1, .int p0), (2, .int p1), (3, .int p2)]) (by decide) rfl (Nat.le_of_ble_eq_true rfl) rfl ?_
  intro X El hR Er Enm ED E En K
  have K : Cx X cX5_fill RX5 wsX5_fill (xTys cy) sd := K
  have E : X.2.2.2.2.2.2.2.2.2.2.1 = xMQ X (fun u : XRow => none) post (fun u => [(a0, .inr (6, [.ref a1, .int rL])), (a1, .inr (7, [.int 2, .ref a2])), (a2, .inl (cy 0, 6, .inl u))]) 0 0 := E
  unfold wp_X5_fill at hw
  refine g_aload_n K 0 dX5_fill_0 rfl ?_
  refine g_get K (C := RX5) (T := TX5) (N := 2) 0 0 in_X5_fill_X5 (by decide +kernel) rfl rfl (by decide) rfl dX5_fill_1 ?_
  refine g_iload_n K 1 dX5_fill_4 rfl ?_
  refine g_iconst (v := 0) K dX5_fill_5 rfl ?_
  refine g_iload_n K 2 dX5_fill_6 rfl ?_
  refine g_callV (st' := fun u1 => []) (ws' := fun u1 => [(a0, .inr (6, [.ref a1, .int rL])), (a1, .inr (7, [.int 2, .ref a2])), (a2, .inl (cy 0, 6, .inl u1))]) K hR [.int p0, .int 0, .int p1] [] 1 rfl rfl (c_X6_put X.2.1 (gxD X) cy sd a1 a2 2 6 rP p0 0 p1 hw) gX5_fill_X6_put rfl yok_X6_put rfl rfl (by decide) rfl (Nat.le_of_ble_eq_true rfl) dX5_fill_7 [1, 2] rfl (by decide) (fun _ => rfl) (fun _ => rfl) (fun _ => rfl) ⟨rfl, rfl⟩ (fun u1 hw => ?_)
  refine g_aload_n K 0 dX5_fill_10 rfl ?_
  refine g_get K (C := RX5) (T := TX5) (N := 2) 0 0 in_X5_fill_X5 (by decide +kernel) rfl rfl (by decide) rfl dX5_fill_11 ?_
  refine g_iload_n K 1 dX5_fill_14 rfl ?_
  refine g_iconst (v := 1) K dX5_fill_15 rfl ?_
  refine g_iload_n K 3 dX5_fill_16 rfl ?_
  refine g_callV (st' := fun u2 => []) (ws' := fun u2 => [(a0, .inr (6, [.ref a1, .int rL])), (a1, .inr (7, [.int 2, .ref a2])), (a2, .inl (cy 0, 6, .inl u2))]) K hR [.int p0, .int 1, .int p2] [] 1 rfl rfl (c_X6_put X.2.1 (gxD X) cy sd a1 a2 2 6 u1 p0 1 p2 hw) gX5_fill_X6_put rfl yok_X6_put rfl rfl (by decide) rfl (Nat.le_of_ble_eq_true rfl) dX5_fill_17 [1, 2] rfl (by decide) (fun _ => rfl) (fun _ => rfl) (fun _ => rfl) ⟨rfl, rfl⟩ (fun u2 hw => ?_)
  exact g_vret K E Er u2 hw rfl rfl (Nat.le_refl _) (Nat.le_refl _) dX5_fill_20

def wp_X5_replace (rP : XRow) (p0 : Int32) (p1 : Int32) (p2 : Int32) (p3 : Int32) (p4 : Int32) (post : (Int32 × XRow) → Prop) : Prop := (p0 = (-1) → (wp_X5_fill rP 0 p1 p2 (fun u1 : XRow => wp_X5_fill u1 (0 + 1) p3 p4 (fun u2 : XRow => ∀ x3 : Int32, x3 = 0 + 2 → (post (x3, u2)))))) ∧ (¬ p0 = (-1) → (wp_X5_fill rP 0 9 p0 (fun u4 : XRow => ∀ x5 : Int32, x5 = 0 + 1 → (wp_X5_fill u4 x5 p1 p2 (fun u6 : XRow => wp_X5_fill u6 (x5 + 1) p3 p4 (fun u7 : XRow => ∀ x8 : Int32, x8 = x5 + 2 → (post (x8, u7))))))))
theorem in_X5_replace_X5 : ∀ w ∈ u_ws RX5 TX5 2, w ∈ wsX5_replace := by decide +kernel
set_option maxRecDepth 100000 in
set_option maxHeartbeats 4000000 in
theorem c_X5_replace (l : Launch) (D : va_G) (cy : Nat → ClassId) (sd : xSd) (a0 a1 a2 : Nat) (rP : XRow) (rL : Int32) (p0 : Int32) (p1 : Int32) (p2 : Int32) (p3 : Int32) (p4 : Int32) {post : (Int32 × XRow) → Prop} (hw : wp_X5_replace rP p0 p1 p2 p3 p4 post) : Ctr l D (xTys cy) sd yX5_replace wsX5_replace ({ frames := 2, cells := 0, slots := 0, locals := 47 } : Room) [.ref a0, .int p0, .int p1, .int p2, .int p3, .int p4] (fun u : Int32 × XRow => none) [(a0, .inr (6, [.ref a1, .int rL])), (a1, .inr (7, [.int 2, .ref a2])), (a2, .inl (cy 0, 6, .inl rP))] (fun u => [(a0, .inr (6, [.ref a1, .int u.1])), (a1, .inr (7, [.int 2, .ref a2])), (a2, .inl (cy 0, 6, .inl u.2))]) post := by
  refine Ctr.of (cc := cX5_replace) (maxL := 7) (ret := none) (lv0 := [(0, .ref a0), (1, .int p0), (2, .int p1), (3, .int p2), (4, .int p3), (5, .int p4)]) (by decide) rfl (Nat.le_of_ble_eq_true rfl) rfl ?_
  intro X El hR Er Enm ED E En K
  have K : Cx X cX5_replace RX5 wsX5_replace (xTys cy) sd := K
  have E : X.2.2.2.2.2.2.2.2.2.2.1 = xMQ X (fun u : Int32 × XRow => none) post (fun u => [(a0, .inr (6, [.ref a1, .int u.1])), (a1, .inr (7, [.int 2, .ref a2])), (a2, .inl (cy 0, 6, .inl u.2))]) 0 0 := E
  unfold wp_X5_replace at hw
  refine g_iconst (v := 0) K dX5_replace_0 rfl ?_
  refine g_istore (lv' := [(6, .int 0), (0, .ref a0), (1, .int p0), (2, .int p1), (3, .int p2), (4, .int p3), (5, .int p4)]) K dX5_replace_1 (by rw [En]; decide) rfl ?_
  refine g_iload_n K 2 dX5_replace_3 rfl ?_
  refine g_iconst (v := (-1)) K dX5_replace_4 rfl ?_
  refine g_icmp_eq (tgt := 20) K dX5_replace_5 (by decide) (fun hc => ?_) (fun hc => ?_)
  · replace hw := hw.1 hc
    refine g_aload_n K 1 dX5_replace_20 rfl ?_
    refine g_iload K 0 dX5_replace_21 rfl ?_
    refine g_iload_n K 3 dX5_replace_23 rfl ?_
    refine g_iload_n K 4 dX5_replace_24 rfl ?_
    refine g_callV (st' := fun u1 => []) (ws' := fun u1 => [(a0, .inr (6, [.ref a1, .int rL])), (a1, .inr (7, [.int 2, .ref a2])), (a2, .inl (cy 0, 6, .inl u1))]) K hR [.int 0, .int p1, .int p2] [] 0 rfl rfl (c_X5_fill X.2.1 (gxD X) cy sd a0 a1 a2 rP rL 0 p1 p2 hw) gX5_replace_X5_fill rfl yok_X5_fill rfl rfl (by decide) rfl (Nat.le_of_ble_eq_true rfl) dX5_replace_25 [0, 1, 2] rfl (by decide) (fun _ => rfl) (fun _ => rfl) (fun _ => rfl) ⟨rfl, rfl⟩ (fun u1 hw => ?_)
    refine g_aload_n K 1 dX5_replace_28 rfl ?_
    refine g_iload K 0 dX5_replace_29 rfl ?_
    refine g_iconst (v := 1) K dX5_replace_31 rfl ?_
    refine g_iadd K dX5_replace_32 ?_
    refine g_iload K 5 dX5_replace_33 rfl ?_
    refine g_iload K 6 dX5_replace_35 rfl ?_
    refine g_callV (st' := fun u2 => []) (ws' := fun u2 => [(a0, .inr (6, [.ref a1, .int rL])), (a1, .inr (7, [.int 2, .ref a2])), (a2, .inl (cy 0, 6, .inl u2))]) K hR [.int (0 + 1), .int p3, .int p4] [] 0 rfl rfl (c_X5_fill X.2.1 (gxD X) cy sd a0 a1 a2 u1 rL (0 + 1) p3 p4 hw) gX5_replace_X5_fill rfl yok_X5_fill rfl rfl (by decide) rfl (Nat.le_of_ble_eq_true rfl) dX5_replace_37 [0, 1, 2] rfl (by decide) (fun _ => rfl) (fun _ => rfl) (fun _ => rfl) ⟨rfl, rfl⟩ (fun u2 hw => ?_)
    refine g_aload_n K 1 dX5_replace_40 rfl ?_
    refine g_iload K 0 dX5_replace_41 rfl ?_
    refine g_iconst (v := 2) K dX5_replace_43 rfl ?_
    refine g_iadd K dX5_replace_44 ?_
    refine g_topi (fun x3 ex3 => ?_)
    replace hw := hw x3 ex3
    refine g_put (ty := .int) (ws' := [(a0, .inr (6, [.ref a1, .int x3])), (a1, .inr (7, [.int 2, .ref a2])), (a2, .inl (cy 0, 6, .inl u2))]) K (C := RX5) (T := TX5) (N := 2) 0 1 in_X5_replace_X5 tyX5 tyX5_ok nmX5 (by decide +kernel) rfl rfl (by decide) rfl (by decide +kernel) rfl rfl (Nat.le_of_ble_eq_true rfl) rfl dX5_replace_45 ?_
    exact g_vret K E Er (x3, u2) hw rfl rfl (Nat.le_refl _) (Nat.le_refl _) dX5_replace_48
  · replace hw := hw.2 hc
    refine g_aload_n K 1 dX5_replace_8 rfl ?_
    refine g_iload K 0 dX5_replace_9 rfl ?_
    refine g_bipush (v := 9) K dX5_replace_11 rfl ?_
    refine g_iload_n K 2 dX5_replace_13 rfl ?_
    refine g_callV (st' := fun u4 => []) (ws' := fun u4 => [(a0, .inr (6, [.ref a1, .int rL])), (a1, .inr (7, [.int 2, .ref a2])), (a2, .inl (cy 0, 6, .inl u4))]) K hR [.int 0, .int 9, .int p0] [] 0 rfl rfl (c_X5_fill X.2.1 (gxD X) cy sd a0 a1 a2 rP rL 0 9 p0 hw) gX5_replace_X5_fill rfl yok_X5_fill rfl rfl (by decide) rfl (Nat.le_of_ble_eq_true rfl) dX5_replace_14 [0, 1, 2] rfl (by decide) (fun _ => rfl) (fun _ => rfl) (fun _ => rfl) ⟨rfl, rfl⟩ (fun u4 hw => ?_)
    obtain ⟨x5, ex5⟩ : ∃ z : Int32, z = 0 + 1 := ⟨_, rfl⟩
    replace hw := hw x5 ex5
    refine g_iinc (v := x5) (lv' := [(6, .int x5), (0, .ref a0), (1, .int p0), (2, .int p1), (3, .int p2), (4, .int p3), (5, .int p4)]) K 0 dX5_replace_17 rfl (by rw [ex5]; rfl) (by rw [En]; decide) rfl ?_
    refine g_aload_n K 1 dX5_replace_20 rfl ?_
    refine g_iload K 0 dX5_replace_21 rfl ?_
    refine g_iload_n K 3 dX5_replace_23 rfl ?_
    refine g_iload_n K 4 dX5_replace_24 rfl ?_
    refine g_callV (st' := fun u6 => []) (ws' := fun u6 => [(a0, .inr (6, [.ref a1, .int rL])), (a1, .inr (7, [.int 2, .ref a2])), (a2, .inl (cy 0, 6, .inl u6))]) K hR [.int x5, .int p1, .int p2] [] 0 rfl rfl (c_X5_fill X.2.1 (gxD X) cy sd a0 a1 a2 u4 rL x5 p1 p2 hw) gX5_replace_X5_fill rfl yok_X5_fill rfl rfl (by decide) rfl (Nat.le_of_ble_eq_true rfl) dX5_replace_25 [0, 1, 2] rfl (by decide) (fun _ => rfl) (fun _ => rfl) (fun _ => rfl) ⟨rfl, rfl⟩ (fun u6 hw => ?_)
    refine g_aload_n K 1 dX5_replace_28 rfl ?_
    refine g_iload K 0 dX5_replace_29 rfl ?_
    refine g_iconst (v := 1) K dX5_replace_31 rfl ?_
    refine g_iadd K dX5_replace_32 ?_
    refine g_iload K 5 dX5_replace_33 rfl ?_
    refine g_iload K 6 dX5_replace_35 rfl ?_
    refine g_callV (st' := fun u7 => []) (ws' := fun u7 => [(a0, .inr (6, [.ref a1, .int rL])), (a1, .inr (7, [.int 2, .ref a2])), (a2, .inl (cy 0, 6, .inl u7))]) K hR [.int (x5 + 1), .int p3, .int p4] [] 0 rfl rfl (c_X5_fill X.2.1 (gxD X) cy sd a0 a1 a2 u6 rL (x5 + 1) p3 p4 hw) gX5_replace_X5_fill rfl yok_X5_fill rfl rfl (by decide) rfl (Nat.le_of_ble_eq_true rfl) dX5_replace_37 [0, 1, 2] rfl (by decide) (fun _ => rfl) (fun _ => rfl) (fun _ => rfl) ⟨rfl, rfl⟩ (fun u7 hw => ?_)
    refine g_aload_n K 1 dX5_replace_40 rfl ?_
    refine g_iload K 0 dX5_replace_41 rfl ?_
    refine g_iconst (v := 2) K dX5_replace_43 rfl ?_
    refine g_iadd K dX5_replace_44 ?_
    refine g_topi (fun x8 ex8 => ?_)
    replace hw := hw x8 ex8
    refine g_put (ty := .int) (ws' := [(a0, .inr (6, [.ref a1, .int x8])), (a1, .inr (7, [.int 2, .ref a2])), (a2, .inl (cy 0, 6, .inl u7))]) K (C := RX5) (T := TX5) (N := 2) 0 1 in_X5_replace_X5 tyX5 tyX5_ok nmX5 (by decide +kernel) rfl rfl (by decide) rfl (by decide +kernel) rfl rfl (Nat.le_of_ble_eq_true rfl) rfl dX5_replace_45 ?_
    exact g_vret K E Er (x8, u7) hw rfl rfl (Nat.le_refl _) (Nat.le_refl _) dX5_replace_48

def wp_X5_part (rP : XRow) (p0 : Int32) (p1 : Bool) (post : Int32 → Prop) : Prop := (p1 = true → (wp_X6_get 2 6 rP p0 1 (fun u2 : Int32 => post u2))) ∧ (p1 = false → (wp_X6_get 2 6 rP p0 0 (fun u1 : Int32 => post u1)))
theorem in_X5_part_X5 : ∀ w ∈ u_ws RX5 TX5 2, w ∈ wsX5_part := by decide +kernel
set_option maxRecDepth 100000 in
set_option maxHeartbeats 4000000 in
theorem c_X5_part (l : Launch) (D : va_G) (cy : Nat → ClassId) (sd : xSd) (a0 a1 a2 : Nat) (rP : XRow) (rL : Int32) (p0 : Int32) (p1 : Bool) {post : Int32 → Prop} (hw : wp_X5_part rP p0 p1 post) : Ctr l D (xTys cy) sd yX5_part wsX5_part ({ frames := 1, cells := 0, slots := 0, locals := 23 } : Room) [.ref a0, .int p0, .int (bI p1)] (fun u : Int32 => some (.int u)) [(a0, .inr (6, [.ref a1, .int rL])), (a1, .inr (7, [.int 2, .ref a2])), (a2, .inl (cy 0, 6, .inl rP))] (fun _ => [(a0, .inr (6, [.ref a1, .int rL])), (a1, .inr (7, [.int 2, .ref a2])), (a2, .inl (cy 0, 6, .inl rP))]) post := by
  refine Ctr.of (cc := cX5_part) (maxL := 3) (ret := (some .int)) (lv0 := [(0, .ref a0), (1, .int p0), (2, .int (bI p1))]) (by decide) rfl (Nat.le_of_ble_eq_true rfl) rfl ?_
  intro X El hR Er Enm ED E En K
  have K : Cx X cX5_part RX5 wsX5_part (xTys cy) sd := K
  have E : X.2.2.2.2.2.2.2.2.2.2.1 = xMQ X (fun u : Int32 => some (.int u)) post (fun _ => [(a0, .inr (6, [.ref a1, .int rL])), (a1, .inr (7, [.int 2, .ref a2])), (a2, .inl (cy 0, 6, .inl rP))]) 0 0 := E
  unfold wp_X5_part at hw
  refine g_aload_n K 0 dX5_part_0 rfl ?_
  refine g_get K (C := RX5) (T := TX5) (N := 2) 0 0 in_X5_part_X5 (by decide +kernel) rfl rfl (by decide) rfl dX5_part_1 ?_
  refine g_iload_n K 1 dX5_part_4 rfl ?_
  refine g_iload_n K 2 dX5_part_5 rfl ?_
  refine g_ifb_eq (tgt := 13) K dX5_part_6 (by decide) (fun hc => ?_) (fun hc => ?_)
  · replace hw := hw.2 hc
    refine g_iconst (v := 0) K dX5_part_13 rfl ?_
    refine g_callVr (st' := fun u1 => [.int u1]) K hR [.int p0, .int 0] [] 1 rfl rfl (c_X6_get X.2.1 (gxD X) cy sd a1 a2 2 6 rP p0 0 hw) gX5_part_X6_get rfl yok_X6_get rfl rfl (by decide) rfl (Nat.le_of_ble_eq_true rfl) dX5_part_14 [1, 2] rfl (by decide) (fun _ => rfl) ⟨rfl, rfl⟩ (fun u1 hw => ?_)
    exact g_zret K E Er u1 hw rfl rfl rfl (Nat.le_refl _) (Nat.le_refl _) dX5_part_17
  · replace hw := hw.1 hc
    refine g_iconst (v := 1) K dX5_part_9 rfl ?_
    refine g_goto (tgt := 14) K dX5_part_10 (by decide) ?_
    refine g_callVr (st' := fun u2 => [.int u2]) K hR [.int p0, .int 1] [] 1 rfl rfl (c_X6_get X.2.1 (gxD X) cy sd a1 a2 2 6 rP p0 1 hw) gX5_part_X6_get rfl yok_X6_get rfl rfl (by decide) rfl (Nat.le_of_ble_eq_true rfl) dX5_part_14 [1, 2] rfl (by decide) (fun _ => rfl) ⟨rfl, rfl⟩ (fun u2 hw => ?_)
    exact g_zret K E Er u2 hw rfl rfl rfl (Nat.le_refl _) (Nat.le_refl _) dX5_part_17
