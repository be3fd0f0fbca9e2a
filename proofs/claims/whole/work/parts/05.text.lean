theorem yok_X7_isFull : yOk yX7_isFull 0 := by decide +kernel
theorem yok_X7_add : yOk yX7_add 1 := by decide +kernel
theorem yok_X7_empty : yOk yX7_empty 0 := by decide +kernel
theorem yok_X7_number : yOk yX7_number 2 := by decide +kernel
theorem yok_X7_peek : yOk yX7_peek 0 := by decide +kernel
theorem yok_X7_formOf : yOk yX7_formOf 1 := by decide +kernel
theorem yok_X7_parseNumber : yOk yX7_parseNumber 1 := by decide +kernel
theorem yok_X7_takes : yOk yX7_takes 1 := by decide +kernel
theorem yok_X7_parsesCommand : yOk yX7_parsesCommand 1 := by decide +kernel
theorem yok_X7_parse : yOk yX7_parse 0 := by decide +kernel
def wp_X7_isFull (tn : Int32) (post : Bool → Prop) : Prop := (tn < 80 → (post false)) ∧ (¬ tn < 80 → (post true))
theorem in_X7_isFull_X7 : ∀ w ∈ u_ws RX7 TX7 5, w ∈ wsX7_isFull := by decide +kernel
set_option maxRecDepth 100000 in
set_option maxHeartbeats 4000000 in
theorem c_X7_isFull (l : Launch) (D : va_G) (cy : Nat → ClassId) (sd : xSd) (a0 a1 a2 a3 : Nat) (tL : XRow) (tC : XRow) (tn : Int32) (tp : Int32) (tc : Int32) {post : Bool → Prop} (hw : wp_X7_isFull tn post) : Ctr l D (xTys cy) sd yX7_isFull wsX7_isFull ({ frames := 0, cells := 0, slots := 0, locals := 0 } : Room) [.ref a0] (fun u : Bool => some (.int (bI u))) [(a0, .inr (8, [.ref a1, .ref a2, .int tn, .int tp, .int tc])), (a1, .inl (cy 1, 80, .inl tL)), (a2, .inr (7, [.int 5, .ref a3])), (a3, .inl (cy 0, 135, .inl tC))] (fun _ => [(a0, .inr (8, [.ref a1, .ref a2, .int tn, .int tp, .int tc])), (a1, .inl (cy 1, 80, .inl tL)), (a2, .inr (7, [.int 5, .ref a3])), (a3, .inl (cy 0, 135, .inl tC))]) post := by
  refine Ctr.of (cc := cX7_isFull) (maxL := 1) (ret := (some .boolean)) (lv0 := [(0, .ref a0)]) (by decide) rfl (Nat.le_of_ble_eq_true rfl) rfl ?_
  intro X El hR Er Enm ED E En K
  have K : Cx X cX7_isFull RX7 wsX7_isFull (xTys cy) sd := K
  have E : X.2.2.2.2.2.2.2.2.2.2.1 = xMQ X (fun u : Bool => some (.int (bI u))) post (fun _ => [(a0, .inr (8, [.ref a1, .ref a2, .int tn, .int tp, .int tc])), (a1, .inl (cy 1, 80, .inl tL)), (a2, .inr (7, [.int 5, .ref a3])), (a3, .inl (cy 0, 135, .inl tC))]) 0 0 := E
  unfold wp_X7_isFull at hw
  refine g_aload_n K 0 dX7_isFull_0 rfl ?_
  refine g_get K (C := RX7) (T := TX7) (N := 5) 0 2 in_X7_isFull_X7 (by decide +kernel) rfl rfl (by decide) rfl dX7_isFull_1 ?_
  refine g_bipush (v := 80) K dX7_isFull_4 rfl ?_
  refine g_icmp_lt (tgt := 13) K dX7_isFull_6 (by decide) (fun hc => ?_) (fun hc => ?_)
  · replace hw := hw.1 hc
    refine g_iconst (v := 0) K dX7_isFull_13 rfl ?_
    exact g_zret K E Er false hw rfl rfl rfl (Nat.le_refl _) (Nat.le_refl _) dX7_isFull_14
  · replace hw := hw.2 hc
    refine g_iconst (v := 1) K dX7_isFull_9 rfl ?_
    refine g_goto (tgt := 14) K dX7_isFull_10 (by decide) ?_
    exact g_zret K E Er true hw rfl rfl rfl (Nat.le_refl _) (Nat.le_refl _) dX7_isFull_14

def wp_X7_add (tL : XRow) (tn : Int32) (p0 : Int32) (post : (Int32 × Int32 × XRow) → Prop) : Prop := (tn < 0 → (post (tn, tn, tL))) ∧ (¬ tn < 0 → ((80 ≤ tn → (post (tn, tn, tL))) ∧ (¬ 80 ≤ tn → (vp_in tn 80 ∧ (∀ x1 : Int32, x1 = tn + 1 → (post (x1, x1, upd tL (tn).toNatClampNeg (vp_nar .char p0))))))))
theorem in_X7_add_X7 : ∀ w ∈ u_ws RX7 TX7 5, w ∈ wsX7_add := by decide +kernel
set_option maxRecDepth 100000 in
set_option maxHeartbeats 4000000 in
theorem c_X7_add (l : Launch) (D : va_G) (cy : Nat → ClassId) (sd : xSd) (a0 a1 a2 a3 : Nat) (tL : XRow) (tC : XRow) (tn : Int32) (tp : Int32) (tc : Int32) (p0 : Int32) {post : (Int32 × Int32 × XRow) → Prop} (hw : wp_X7_add tL tn p0 post) : Ctr l D (xTys cy) sd yX7_add wsX7_add ({ frames := 0, cells := 0, slots := 0, locals := 0 } : Room) [.ref a0, .int p0] (fun u : Int32 × Int32 × XRow => some (.int u.1)) [(a0, .inr (8, [.ref a1, .ref a2, .int tn, .int tp, .int tc])), (a1, .inl (cy 1, 80, .inl tL)), (a2, .inr (7, [.int 5, .ref a3])), (a3, .inl (cy 0, 135, .inl tC))] (fun u => [(a0, .inr (8, [.ref a1, .ref a2, .int u.2.1, .int tp, .int tc])), (a1, .inl (cy 1, 80, .inl u.2.2)), (a2, .inr (7, [.int 5, .ref a3])), (a3, .inl (cy 0, 135, .inl tC))]) post := by
  refine Ctr.of (cc := cX7_add) (maxL := 2) (ret := (some .int)) (lv0 := [(0, .ref a0), (1, .int p0)]) (by decide) rfl (Nat.le_of_ble_eq_true rfl) rfl ?_
  intro X El hR Er Enm ED E En K
  have K : Cx X cX7_add RX7 wsX7_add (xTys cy) sd := K
  have E : X.2.2.2.2.2.2.2.2.2.2.1 = xMQ X (fun u : Int32 × Int32 × XRow => some (.int u.1)) post (fun u => [(a0, .inr (8, [.ref a1, .ref a2, .int u.2.1, .int tp, .int tc])), (a1, .inl (cy 1, 80, .inl u.2.2)), (a2, .inr (7, [.int 5, .ref a3])), (a3, .inl (cy 0, 135, .inl tC))]) 0 0 := E
  unfold wp_X7_add at hw
  refine g_aload_n K 0 dX7_add_0 rfl ?_
  refine g_get K (C := RX7) (T := TX7) (N := 5) 0 2 in_X7_add_X7 (by decide +kernel) rfl rfl (by decide) rfl dX7_add_1 ?_
  refine g_if_lt (tgt := 39) K dX7_add_4 (by decide) (fun hc => ?_) (fun hc => ?_)
  · replace hw := hw.1 hc
    refine g_aload_n K 0 dX7_add_39 rfl ?_
    refine g_get K (C := RX7) (T := TX7) (N := 5) 0 2 in_X7_add_X7 (by decide +kernel) rfl rfl (by decide) rfl dX7_add_40 ?_
    exact g_zret K E Er (tn, tn, tL) hw rfl rfl rfl (Nat.le_refl _) (Nat.le_refl _) dX7_add_43
  · replace hw := hw.2 hc
    refine g_aload_n K 0 dX7_add_7 rfl ?_
    refine g_get K (C := RX7) (T := TX7) (N := 5) 0 2 in_X7_add_X7 (by decide +kernel) rfl rfl (by decide) rfl dX7_add_8 ?_
    refine g_aload_n K 0 dX7_add_11 rfl ?_
    refine g_get K (C := RX7) (T := TX7) (N := 5) 0 0 in_X7_add_X7 (by decide +kernel) rfl rfl (by decide) rfl dX7_add_12 ?_
    refine g_alen (v := 80) K 1 1 rfl rfl rfl dX7_add_15 ?_
    refine g_icmp_ge (tgt := 39) K dX7_add_16 (by decide) (fun hc => ?_) (fun hc => ?_)
    · replace hw := hw.1 hc
      refine g_aload_n K 0 dX7_add_39 rfl ?_
      refine g_get K (C := RX7) (T := TX7) (N := 5) 0 2 in_X7_add_X7 (by decide +kernel) rfl rfl (by decide) rfl dX7_add_40 ?_
      exact g_zret K E Er (tn, tn, tL) hw rfl rfl rfl (Nat.le_refl _) (Nat.le_refl _) dX7_add_43
    · replace hw := hw.2 hc
      refine g_aload_n K 0 dX7_add_19 rfl ?_
      refine g_get K (C := RX7) (T := TX7) (N := 5) 0 0 in_X7_add_X7 (by decide +kernel) rfl rfl (by decide) rfl dX7_add_20 ?_
      refine g_aload_n K 0 dX7_add_23 rfl ?_
      refine g_get K (C := RX7) (T := TX7) (N := 5) 0 2 in_X7_add_X7 (by decide +kernel) rfl rfl (by decide) rfl dX7_add_24 ?_
      refine g_iload_n K 1 dX7_add_27 rfl ?_
      refine g_cast (ws' := [(a0, .inr (8, [.ref a1, .ref a2, .int tn, .int tp, .int tc])), (a1, .inl (cy 1, 80, .inl (upd tL (tn).toNatClampNeg (vp_nar .char p0)))), (a2, .inr (7, [.int 5, .ref a3])), (a3, .inl (cy 0, 135, .inl tC))]) K 1 1 rfl rfl hw.1 rfl dX7_add_28 ?_
      replace hw := hw.2
      refine g_aload_n K 0 dX7_add_29 rfl ?_
      refine g_dup K dX7_add_30 rfl ?_
      refine g_get K (C := RX7) (T := TX7) (N := 5) 0 2 in_X7_add_X7 (by decide +kernel) rfl rfl (by decide) rfl dX7_add_31 ?_
      refine g_iconst (v := 1) K dX7_add_34 rfl ?_
      refine g_iadd K dX7_add_35 ?_
      refine g_topi (fun x1 ex1 => ?_)
      replace hw := hw x1 ex1
      refine g_put (ty := .int) (ws' := [(a0, .inr (8, [.ref a1, .ref a2, .int x1, .int tp, .int tc])), (a1, .inl (cy 1, 80, .inl (upd tL (tn).toNatClampNeg (vp_nar .char p0)))), (a2, .inr (7, [.int 5, .ref a3])), (a3, .inl (cy 0, 135, .inl tC))]) K (C := RX7) (T := TX7) (N := 5) 0 2 in_X7_add_X7 tyX7 tyX7_ok nmX7 (by decide +kernel) rfl rfl (by decide) rfl (by decide +kernel) rfl rfl (Nat.le_of_ble_eq_true rfl) rfl dX7_add_36 ?_
      refine g_aload_n K 0 dX7_add_39 rfl ?_
      refine g_get K (C := RX7) (T := TX7) (N := 5) 0 2 in_X7_add_X7 (by decide +kernel) rfl rfl (by decide) rfl dX7_add_40 ?_
      exact g_zret K E Er (x1, x1, upd tL (tn).toNatClampNeg (vp_nar .char p0)) hw rfl rfl rfl (Nat.le_refl _) (Nat.le_refl _) dX7_add_43

def wp_X7_empty (post : Int32 → Prop) : Prop := post 0
theorem in_X7_empty_X7 : ∀ w ∈ u_ws RX7 TX7 5, w ∈ wsX7_empty := by decide +kernel
set_option maxRecDepth 100000 in
set_option maxHeartbeats 4000000 in
theorem c_X7_empty (l : Launch) (D : va_G) (cy : Nat → ClassId) (sd : xSd) (a0 a1 a2 a3 : Nat) (tL : XRow) (tC : XRow) (tn : Int32) (tp : Int32) (tc : Int32) {post : Int32 → Prop} (hw : wp_X7_empty  post) : Ctr l D (xTys cy) sd yX7_empty wsX7_empty ({ frames := 0, cells := 0, slots := 0, locals := 0 } : Room) [.ref a0] (fun u : Int32 => none) [(a0, .inr (8, [.ref a1, .ref a2, .int tn, .int tp, .int tc])), (a1, .inl (cy 1, 80, .inl tL)), (a2, .inr (7, [.int 5, .ref a3])), (a3, .inl (cy 0, 135, .inl tC))] (fun u => [(a0, .inr (8, [.ref a1, .ref a2, .int u, .int tp, .int tc])), (a1, .inl (cy 1, 80, .inl tL)), (a2, .inr (7, [.int 5, .ref a3])), (a3, .inl (cy 0, 135, .inl tC))]) post := by
  refine Ctr.of (cc := cX7_empty) (maxL := 1) (ret := none) (lv0 := [(0, .ref a0)]) (by decide) rfl (Nat.le_of_ble_eq_true rfl) rfl ?_
  intro X El hR Er Enm ED E En K
  have K : Cx X cX7_empty RX7 wsX7_empty (xTys cy) sd := K
  have E : X.2.2.2.2.2.2.2.2.2.2.1 = xMQ X (fun u : Int32 => none) post (fun u => [(a0, .inr (8, [.ref a1, .ref a2, .int u, .int tp, .int tc])), (a1, .inl (cy 1, 80, .inl tL)), (a2, .inr (7, [.int 5, .ref a3])), (a3, .inl (cy 0, 135, .inl tC))]) 0 0 := E
  unfold wp_X7_empty at hw
  refine g_aload_n K 0 dX7_empty_0 rfl ?_
  refine g_iconst (v := 0) K dX7_empty_1 rfl ?_
  refine g_put (ty := .int) (ws' := [(a0, .inr (8, [.ref a1, .ref a2, .int 0, .int tp, .int tc])), (a1, .inl (cy 1, 80, .inl tL)), (a2, .inr (7, [.int 5, .ref a3])), (a3, .inl (cy 0, 135, .inl tC))]) K (C := RX7) (T := TX7) (N := 5) 0 2 in_X7_empty_X7 tyX7 tyX7_ok nmX7 (by decide +kernel) rfl rfl (by decide) rfl (by decide +kernel) rfl rfl (Nat.le_of_ble_eq_true rfl) rfl dX7_empty_2 ?_
  exact g_vret K E Er 0 hw rfl rfl (Nat.le_refl _) (Nat.le_refl _) dX7_empty_5

def wp_X7_number (tC : XRow) (p0 : Int32) (p1 : Int32) (post : Int32 → Prop) : Prop := wp_X6_get 5 135 tC p0 p1 (fun u1 : Int32 => post u1)
theorem in_X7_number_X7 : ∀ w ∈ u_ws RX7 TX7 5, w ∈ wsX7_number := by decide +kernel
set_option maxRecDepth 100000 in
set_option maxHeartbeats 4000000 in
theorem c_X7_number (l : Launch) (D : va_G) (cy : Nat → ClassId) (sd : xSd) (a0 a1 a2 a3 : Nat) (tL : XRow) (tC : XRow) (tn : Int32) (tp : Int32) (tc : Int32) (p0 : Int32) (p1 : Int32) {post : Int32 → Prop} (hw : wp_X7_number tC p0 p1 post) : Ctr l D (xTys cy) sd yX7_number wsX7_number ({ frames := 1, cells := 0, slots := 0, locals := 23 } : Room) [.ref a0, .int p0, .int p1] (fun u : Int32 => some (.int u)) [(a0, .inr (8, [.ref a1, .ref a2, .int tn, .int tp, .int tc])), (a1, .inl (cy 1, 80, .inl tL)), (a2, .inr (7, [.int 5, .ref a3])), (a3, .inl (cy 0, 135, .inl tC))] (fun _ => [(a0, .inr (8, [.ref a1, .ref a2, .int tn, .int tp, .int tc])), (a1, .inl (cy 1, 80, .inl tL)), (a2, .inr (7, [.int 5, .ref a3])), (a3, .inl (cy 0, 135, .inl tC))]) post := by
  refine Ctr.of (cc := cX7_number) (maxL := 3) (ret := (some .int)) (lv0 := [(0, .ref a0), (1, .int p0), (2, .int p1)]) (by decide) rfl (Nat.le_of_ble_eq_true rfl) rfl ?_
  intro X El hR Er Enm ED E En K
  have K : Cx X cX7_number RX7 wsX7_number (xTys cy) sd := K
  have E : X.2.2.2.2.2.2.2.2.2.2.1 = xMQ X (fun u : Int32 => some (.int u)) post (fun _ => [(a0, .inr (8, [.ref a1, .ref a2, .int tn, .int tp, .int tc])), (a1, .inl (cy 1, 80, .inl tL)), (a2, .inr (7, [.int 5, .ref a3])), (a3, .inl (cy 0, 135, .inl tC))]) 0 0 := E
  unfold wp_X7_number at hw
  refine g_aload_n K 0 dX7_number_0 rfl ?_
  refine g_get K (C := RX7) (T := TX7) (N := 5) 0 1 in_X7_number_X7 (by decide +kernel) rfl rfl (by decide) rfl dX7_number_1 ?_
  refine g_iload_n K 1 dX7_number_4 rfl ?_
  refine g_iload_n K 2 dX7_number_5 rfl ?_
  refine g_callVr (st' := fun u1 => [.int u1]) K hR [.int p0, .int p1] [] 2 rfl rfl (c_X6_get X.2.1 (gxD X) cy sd a2 a3 5 135 tC p0 p1 hw) gX7_number_X6_get rfl yok_X6_get rfl rfl (by decide) rfl (Nat.le_of_ble_eq_true rfl) dX7_number_6 [2, 3] rfl (by decide) (fun _ => rfl) ⟨rfl, rfl⟩ (fun u1 hw => ?_)
  exact g_zret K E Er u1 hw rfl rfl rfl (Nat.le_refl _) (Nat.le_refl _) dX7_number_9

def wp_X7_peek (tL : XRow) (tn : Int32) (tp : Int32) (post : Int32 → Prop) : Prop := (tp < 0 → (post (-1))) ∧ (¬ tp < 0 → ((tn ≤ tp → (post (-1))) ∧ (¬ tn ≤ tp → ((80 ≤ tp → (post (-1))) ∧ (¬ 80 ≤ tp → (vp_in tp 80 ∧ (post (tL (tp).toNatClampNeg))))))))
theorem in_X7_peek_X7 : ∀ w ∈ u_ws RX7 TX7 5, w ∈ wsX7_peek := by decide +kernel
set_option maxRecDepth 100000 in
set_option maxHeartbeats 4000000 in
theorem c_X7_peek (l : Launch) (D : va_G) (cy : Nat → ClassId) (sd : xSd) (a0 a1 a2 a3 : Nat) (tL : XRow) (tC : XRow) (tn : Int32) (tp : Int32) (tc : Int32) {post : Int32 → Prop} (hw : wp_X7_peek tL tn tp post) : Ctr l D (xTys cy) sd yX7_peek wsX7_peek ({ frames := 0, cells := 0, slots := 0, locals := 0 } : Room) [.ref a0] (fun u : Int32 => some (.int u)) [(a0, .inr (8, [.ref a1, .ref a2, .int tn, .int tp, .int tc])), (a1, .inl (cy 1, 80, .inl tL)), (a2, .inr (7, [.int 5, .ref a3])), (a3, .inl (cy 0, 135, .inl tC))] (fun _ => [(a0, .inr (8, [.ref a1, .ref a2, .int tn, .int tp, .int tc])), (a1, .inl (cy 1, 80, .inl tL)), (a2, .inr (7, [.int 5, .ref a3])), (a3, .inl (cy 0, 135, .inl tC))]) post := by
  refine Ctr.of (cc := cX7_peek) (maxL := 2) (ret := (some .int)) (lv0 := [(0, .ref a0)]) (by decide) rfl (Nat.le_of_ble_eq_true rfl) rfl ?_
  intro X El hR Er Enm ED E En K
  have K : Cx X cX7_peek RX7 wsX7_peek (xTys cy) sd := K
  have E : X.2.2.2.2.2.2.2.2.2.2.1 = xMQ X (fun u : Int32 => some (.int u)) post (fun _ => [(a0, .inr (8, [.ref a1, .ref a2, .int tn, .int tp, .int tc])), (a1, .inl (cy 1, 80, .inl tL)), (a2, .inr (7, [.int 5, .ref a3])), (a3, .inl (cy 0, 135, .inl tC))]) 0 0 := E
  unfold wp_X7_peek at hw
  refine g_aload_n K 0 dX7_peek_0 rfl ?_
  refine g_get K (C := RX7) (T := TX7) (N := 5) 0 3 in_X7_peek_X7 (by decide +kernel) rfl rfl (by decide) rfl dX7_peek_1 ?_
  refine g_if_lt (tgt := 34) K dX7_peek_4 (by decide) (fun hc => ?_) (fun hc => ?_)
  · replace hw := hw.1 hc
    refine g_iconst (v := 0) K dX7_peek_34 rfl ?_
    refine g_istore_n (lv' := [(1, .int 0), (0, .ref a0)]) K dX7_peek_35 rfl (by rw [En]; decide) rfl ?_
    refine g_iload_n K 0 dX7_peek_36 rfl ?_
    refine g_if_ne (tgt := 42) K dX7_peek_37 (by decide) (fun hc => absurd hc (by decide)) (fun _ => ?_)
    refine g_iconst (v := (-1)) K dX7_peek_40 rfl ?_
    exact g_zret K E Er (-1) hw rfl rfl rfl (Nat.le_refl _) (Nat.le_refl _) dX7_peek_41
  · replace hw := hw.2 hc
    refine g_aload_n K 0 dX7_peek_7 rfl ?_
    refine g_get K (C := RX7) (T := TX7) (N := 5) 0 3 in_X7_peek_X7 (by decide +kernel) rfl rfl (by decide) rfl dX7_peek_8 ?_
    refine g_aload_n K 0 dX7_peek_11 rfl ?_
    refine g_get K (C := RX7) (T := TX7) (N := 5) 0 2 in_X7_peek_X7 (by decide +kernel) rfl rfl (by decide) rfl dX7_peek_12 ?_
    refine g_icmp_ge (tgt := 34) K dX7_peek_15 (by decide) (fun hc => ?_) (fun hc => ?_)
    · replace hw := hw.1 hc
      refine g_iconst (v := 0) K dX7_peek_34 rfl ?_
      refine g_istore_n (lv' := [(1, .int 0), (0, .ref a0)]) K dX7_peek_35 rfl (by rw [En]; decide) rfl ?_
      refine g_iload_n K 0 dX7_peek_36 rfl ?_
      refine g_if_ne (tgt := 42) K dX7_peek_37 (by decide) (fun hc => absurd hc (by decide)) (fun _ => ?_)
      refine g_iconst (v := (-1)) K dX7_peek_40 rfl ?_
      exact g_zret K E Er (-1) hw rfl rfl rfl (Nat.le_refl _) (Nat.le_refl _) dX7_peek_41
    · replace hw := hw.2 hc
      refine g_aload_n K 0 dX7_peek_18 rfl ?_
      refine g_get K (C := RX7) (T := TX7) (N := 5) 0 3 in_X7_peek_X7 (by decide +kernel) rfl rfl (by decide) rfl dX7_peek_19 ?_
      refine g_aload_n K 0 dX7_peek_22 rfl ?_
      refine g_get K (C := RX7) (T := TX7) (N := 5) 0 0 in_X7_peek_X7 (by decide +kernel) rfl rfl (by decide) rfl dX7_peek_23 ?_
      refine g_alen (v := 80) K 1 1 rfl rfl rfl dX7_peek_26 ?_
      refine g_icmp_ge (tgt := 34) K dX7_peek_27 (by decide) (fun hc => ?_) (fun hc => ?_)
      · replace hw := hw.1 hc
        refine g_iconst (v := 0) K dX7_peek_34 rfl ?_
        refine g_istore_n (lv' := [(1, .int 0), (0, .ref a0)]) K dX7_peek_35 rfl (by rw [En]; decide) rfl ?_
        refine g_iload_n K 0 dX7_peek_36 rfl ?_
        refine g_if_ne (tgt := 42) K dX7_peek_37 (by decide) (fun hc => absurd hc (by decide)) (fun _ => ?_)
        refine g_iconst (v := (-1)) K dX7_peek_40 rfl ?_
        exact g_zret K E Er (-1) hw rfl rfl rfl (Nat.le_refl _) (Nat.le_refl _) dX7_peek_41
      · replace hw := hw.2 hc
        refine g_iconst (v := 1) K dX7_peek_30 rfl ?_
        refine g_goto (tgt := 35) K dX7_peek_31 (by decide) ?_
        refine g_istore_n (lv' := [(1, .int 1), (0, .ref a0)]) K dX7_peek_35 rfl (by rw [En]; decide) rfl ?_
        refine g_iload_n K 0 dX7_peek_36 rfl ?_
        refine g_if_ne (tgt := 42) K dX7_peek_37 (by decide) (fun _ => ?_) (fun hc => absurd hc (by decide))
        refine g_aload_n K 1 dX7_peek_42 rfl ?_
        refine g_get K (C := RX7) (T := TX7) (N := 5) 0 0 in_X7_peek_X7 (by decide +kernel) rfl rfl (by decide) rfl dX7_peek_43 ?_
        refine g_aload_n K 1 dX7_peek_46 rfl ?_
        refine g_get K (C := RX7) (T := TX7) (N := 5) 0 3 in_X7_peek_X7 (by decide +kernel) rfl rfl (by decide) rfl dX7_peek_47 ?_
        refine g_cald K 1 1 rfl rfl hw.1 dX7_peek_50 ?_
        replace hw := hw.2
        exact g_zret K E Er (tL (tp).toNatClampNeg) hw rfl rfl rfl (Nat.le_refl _) (Nat.le_refl _) dX7_peek_51

def wp_X7_formOf (p0 : Int32) (post : (Fin 4) → Prop) : Prop := (p0 = 99 → (post (1 : Fin 4))) ∧ (p0 = 102 → (post (0 : Fin 4))) ∧ (p0 = 114 → (post (2 : Fin 4))) ∧ (p0 = 115 → (post (2 : Fin 4))) ∧ (¬ p0 = 99 ∧ ¬ p0 = 102 ∧ ¬ p0 = 114 ∧ ¬ p0 = 115 → (post (3 : Fin 4)))
set_option maxRecDepth 100000 in
set_option maxHeartbeats 4000000 in
theorem c_X7_formOf (l : Launch) (D : va_G) (cy : Nat → ClassId) (sd : xSd)  (p0 : Int32) {post : (Fin 4) → Prop} (hw : wp_X7_formOf p0 post) : Ctr l D (xTys cy) sd yX7_formOf wsX7_formOf ({ frames := 0, cells := 0, slots := 0, locals := 0 } : Room) [.int p0] (fun u : Fin 4 => some (.ref (sd.2.2.1 (u).val))) [] (fun _ => []) post := by
  refine Ctr.of (cc := cX7_formOf) (maxL := 1) (ret := (some (.object "java/lang/String"))) (lv0 := [(0, .int p0)]) (by decide) rfl (Nat.le_of_ble_eq_true rfl) rfl ?_
  intro X El hR Er Enm ED E En K
  have K : Cx X cX7_formOf RX7 wsX7_formOf (xTys cy) sd := K
  have E : X.2.2.2.2.2.2.2.2.2.2.1 = xMQ X (fun u : Fin 4 => some (.ref (sd.2.2.1 (u).val))) post (fun _ => []) 0 0 := E
  unfold wp_X7_formOf at hw
  refine g_iload_n K 0 dX7_formOf_0 rfl ?_
  by_cases hs99 : p0 = 99
  · refine g_lookup (tgt := 47) (off := 46) K dX7_formOf_1 (by decide) (by rw [hs99]; rfl) (by decide) ?_
    replace hw := hw.1 hs99
    refine g_ldcS K 1 rfl rfl dX7_formOf_47 ?_
    exact g_aret K E Er (Or.inl ⟨_, rfl⟩) (1 : Fin 4) hw rfl (Or.inr ⟨_, rfl⟩) rfl (Nat.le_refl _) (Nat.le_refl _) dX7_formOf_49
  replace hw := hw.2
  by_cases hs102 : p0 = 102
  · refine g_lookup (tgt := 44) (off := 43) K dX7_formOf_1 (by decide) (by rw [hs102]; rfl) (by decide) ?_
    replace hw := hw.1 hs102
    refine g_ldcS K 0 rfl rfl dX7_formOf_44 ?_
    exact g_aret K E Er (Or.inl ⟨_, rfl⟩) (0 : Fin 4) hw rfl (Or.inr ⟨_, rfl⟩) rfl (Nat.le_refl _) (Nat.le_refl _) dX7_formOf_46
  replace hw := hw.2
  by_cases hs114 : p0 = 114
  · refine g_lookup (tgt := 50) (off := 49) K dX7_formOf_1 (by decide) (by rw [hs114]; rfl) (by decide) ?_
    replace hw := hw.1 hs114
    refine g_ldcS K 2 rfl rfl dX7_formOf_50 ?_
    exact g_aret K E Er (Or.inl ⟨_, rfl⟩) (2 : Fin 4) hw rfl (Or.inr ⟨_, rfl⟩) rfl (Nat.le_refl _) (Nat.le_refl _) dX7_formOf_52
  replace hw := hw.2
  by_cases hs115 : p0 = 115
  · refine g_lookup (tgt := 50) (off := 49) K dX7_formOf_1 (by decide) (by rw [hs115]; rfl) (by decide) ?_
    replace hw := hw.1 hs115
    refine g_ldcS K 2 rfl rfl dX7_formOf_50 ?_
    exact g_aret K E Er (Or.inl ⟨_, rfl⟩) (2 : Fin 4) hw rfl (Or.inr ⟨_, rfl⟩) rfl (Nat.le_refl _) (Nat.le_refl _) dX7_formOf_52
  replace hw := hw.2
  refine g_lookup (tgt := 53) (off := 52) K dX7_formOf_1 (by decide) (by simp [Op.lookupswitch.offset, lk_ne 99 hs99 (by decide), lk_ne 102 hs102 (by decide), lk_ne 114 hs114 (by decide), lk_ne 115 hs115 (by decide)]) (by decide) ?_
  replace hw := hw ⟨hs99, hs102, hs114, hs115⟩
  refine g_ldcS K 3 rfl rfl dX7_formOf_53 ?_
  exact g_aret K E Er (Or.inl ⟨_, rfl⟩) (3 : Fin 4) hw rfl (Or.inr ⟨_, rfl⟩) rfl (Nat.le_refl _) (Nat.le_refl _) dX7_formOf_55

def wp_X7_parseNumber_L4 (tL : XRow) (tn : Int32) (p0 : Int32) (k4_56 : Int32 → Int32 → Int32 → Prop) : Nat → Int32 → Int32 → Int32 → Prop
  | 0, _, _, _ => False
  | fu + 1, v1, v2, v3 => (p0 ≤ v1 → (k4_56 v1 v2 v3)) ∧ (¬ p0 ≤ v1 → (wp_X7_peek tL tn v3 (fun u4 : Int32 => wp_X8_isWithin u4 48 57 (fun u5 : Bool => (u5 = true → (wp_X7_peek tL tn v3 (fun u6 : Int32 => ∀ x7 : Int32, x7 = (((xMax 0 v2) * 10) + u6) - 48 → (∀ x8 : Int32, x8 = v3 + 1 → (∀ x9 : Int32, x9 = v1 + 1 → (wp_X7_parseNumber_L4 tL tn p0 k4_56 fu x9 x7 x8)))))) ∧ (u5 = false → (k4_56 v1 v2 v3))))))
def wp_X7_parseNumber (tL : XRow) (tn : Int32) (tp : Int32) (p0 : Int32) (post : (Int32 × Int32) → Prop) : Prop := ∃ fl, wp_X7_parseNumber_L4 tL tn p0 (fun (v10 : Int32) (v11 : Int32) (v12 : Int32) => post (v11, v12)) fl 0 (-1) tp
theorem in_X7_parseNumber_X7 : ∀ w ∈ u_ws RX7 TX7 5, w ∈ wsX7_parseNumber := by decide +kernel
set_option maxRecDepth 100000 in
set_option maxHeartbeats 4000000 in
theorem c_X7_parseNumber (l : Launch) (D : va_G) (cy : Nat → ClassId) (sd : xSd) (a0 a1 a2 a3 : Nat) (tL : XRow) (tC : XRow) (tn : Int32) (tp : Int32) (tc : Int32) (p0 : Int32) {post : (Int32 × Int32) → Prop} (hw : wp_X7_parseNumber tL tn tp p0 post) : Ctr l D (xTys cy) sd yX7_parseNumber wsX7_parseNumber ({ frames := 1, cells := 0, slots := 0, locals := 22 } : Room) [.ref a0, .int p0] (fun u : Int32 × Int32 => some (.int u.1)) [(a0, .inr (8, [.ref a1, .ref a2, .int tn, .int tp, .int tc])), (a1, .inl (cy 1, 80, .inl tL)), (a2, .inr (7, [.int 5, .ref a3])), (a3, .inl (cy 0, 135, .inl tC))] (fun u => [(a0, .inr (8, [.ref a1, .ref a2, .int tn, .int u.2, .int tc])), (a1, .inl (cy 1, 80, .inl tL)), (a2, .inr (7, [.int 5, .ref a3])), (a3, .inl (cy 0, 135, .inl tC))]) post := by
  refine Ctr.of (cc := cX7_parseNumber) (maxL := 4) (ret := (some .int)) (lv0 := [(0, .ref a0), (1, .int p0)]) (by decide) rfl (Nat.le_of_ble_eq_true rfl) rfl ?_
  intro X El hR Er Enm ED E En K
  have K : Cx X cX7_parseNumber RX7 wsX7_parseNumber (xTys cy) sd := K
  have E : X.2.2.2.2.2.2.2.2.2.2.1 = xMQ X (fun u : Int32 × Int32 => some (.int u.1)) post (fun u => [(a0, .inr (8, [.ref a1, .ref a2, .int tn, .int u.2, .int tc])), (a1, .inl (cy 1, 80, .inl tL)), (a2, .inr (7, [.int 5, .ref a3])), (a3, .inl (cy 0, 135, .inl tC))]) 0 0 := E
  unfold wp_X7_parseNumber at hw
  refine g_iconst (v := (-1)) K dX7_parseNumber_0 rfl ?_
  refine g_istore_n (lv' := [(2, .int (-1)), (0, .ref a0), (1, .int p0)]) K dX7_parseNumber_1 rfl (by rw [En]; decide) rfl ?_
  refine g_iconst (v := 0) K dX7_parseNumber_2 rfl ?_
  refine g_istore_n (lv' := [(3, .int 0), (2, .int (-1)), (0, .ref a0), (1, .int p0)]) K dX7_parseNumber_3 rfl (by rw [En]; decide) rfl ?_
  obtain ⟨fl, hw⟩ := hw
  have key : ∀ (k4_56 : Int32 → Int32 → Int32 → Prop), (∀ (v1 : Int32) (v2 : Int32) (v3 : Int32), k4_56 v1 v2 v3 → Gx X 0 0 [(a0, .inr (8, [.ref a1, .ref a2, .int tn, .int v3, .int tc])), (a1, .inl (cy 1, 80, .inl tL)), (a2, .inr (7, [.int 5, .ref a3])), (a3, .inl (cy 0, 135, .inl tC))] [(3, .int v1), (2, .int v2), (0, .ref a0), (1, .int p0)] 56 []) → ∀ (n : Nat) (v1 : Int32) (v2 : Int32) (v3 : Int32), wp_X7_parseNumber_L4 tL tn p0 k4_56 n v1 v2 v3 → Gx X 0 0 [(a0, .inr (8, [.ref a1, .ref a2, .int tn, .int v3, .int tc])), (a1, .inl (cy 1, 80, .inl tL)), (a2, .inr (7, [.int 5, .ref a3])), (a3, .inl (cy 0, 135, .inl tC))] [(3, .int v1), (2, .int v2), (0, .ref a0), (1, .int p0)] 4 [] := by
    intro k4_56 hx56 n
    induction n with
    | zero => intro v1 v2 v3 hw; exact hw.elim
    | succ n ih =>
      intro v1 v2 v3 hw
      refine g_iload_n K 0 dX7_parseNumber_4 rfl ?_
      refine g_iload_n K 3 dX7_parseNumber_5 rfl ?_
      refine g_icmp_ge (tgt := 56) K dX7_parseNumber_6 (by decide) (fun hc => ?_) (fun hc => ?_)
      · replace hw := hw.1 hc
        exact hx56 _ _ _ hw
      · replace hw := hw.2 hc
        refine g_aload_n K 2 dX7_parseNumber_9 rfl ?_
        refine g_callVr (st' := fun u4 => [.int u4]) K hR [] [] 0 rfl rfl (c_X7_peek X.2.1 (gxD X) cy sd a0 a1 a2 a3 tL tC tn v3 tc hw) gX7_parseNumber_X7_peek rfl yok_X7_peek rfl rfl (by decide) rfl (Nat.le_of_ble_eq_true rfl) dX7_parseNumber_10 [0, 1, 2, 3] rfl (by decide) (fun _ => rfl) ⟨rfl, rfl⟩ (fun u4 hw => ?_)
        refine g_bipush (v := 48) K dX7_parseNumber_13 rfl ?_
        refine g_bipush (v := 57) K dX7_parseNumber_15 rfl ?_
        refine g_callSNr (st' := fun u5 => [.int (bI u5)]) K hR [.int u4, .int 48, .int 57] [] RX8 (by decide +kernel) (by decide +kernel) (by decide +kernel) (c_X8_isWithin X.2.1 (gxD X) cy sd u4 48 57 hw) gX7_parseNumber_X8_isWithin_n82 rfl yok_X8_isWithin rfl (by decide) rfl (Nat.le_of_ble_eq_true rfl) dX7_parseNumber_17 [] rfl (by decide) (fun _ => rfl) ⟨rfl, rfl⟩ (fun u5 hw => ?_)
        refine g_ifb_eq (tgt := 56) K dX7_parseNumber_20 (by decide) (fun hc => ?_) (fun hc => ?_)
        · replace hw := hw.2 hc
          exact hx56 _ _ _ hw
        · replace hw := hw.1 hc
          refine g_iconst (v := 0) K dX7_parseNumber_23 rfl ?_
          refine g_iload_n K 1 dX7_parseNumber_24 rfl ?_
          refine g_mmax K hR (by decide +kernel) (by decide +kernel) (by decide +kernel) (by decide +kernel) (by decide) (Nat.le_of_ble_eq_true rfl) dX7_parseNumber_25 ?_
          refine g_bipush (v := 10) K dX7_parseNumber_28 rfl ?_
          refine g_imul K dX7_parseNumber_30 ?_
          refine g_aload_n K 2 dX7_parseNumber_31 rfl ?_
          refine g_callVr (st' := fun u6 => [.int u6, .int ((xMax 0 v2) * 10)]) K hR [] [.int ((xMax 0 v2) * 10)] 0 rfl rfl (c_X7_peek X.2.1 (gxD X) cy sd a0 a1 a2 a3 tL tC tn v3 tc hw) gX7_parseNumber_X7_peek rfl yok_X7_peek rfl rfl (by decide) rfl (Nat.le_of_ble_eq_true rfl) dX7_parseNumber_32 [0, 1, 2, 3] rfl (by decide) (fun _ => rfl) ⟨rfl, rfl⟩ (fun u6 hw => ?_)
          refine g_iadd K dX7_parseNumber_35 ?_
          refine g_bipush (v := 48) K dX7_parseNumber_36 rfl ?_
          refine g_isub K dX7_parseNumber_38 ?_
          refine g_topi (fun x7 ex7 => ?_)
          replace hw := hw x7 ex7
          refine g_istore_n (lv' := [(2, .int x7), (3, .int v1), (0, .ref a0), (1, .int p0)]) K dX7_parseNumber_39 rfl (by rw [En]; decide) rfl ?_
          refine g_aload_n K 2 dX7_parseNumber_40 rfl ?_
          refine g_dup K dX7_parseNumber_41 rfl ?_
          refine g_get K (C := RX7) (T := TX7) (N := 5) 0 3 in_X7_parseNumber_X7 (by decide +kernel) rfl rfl (by decide) rfl dX7_parseNumber_42 ?_
          refine g_iconst (v := 1) K dX7_parseNumber_45 rfl ?_
          refine g_iadd K dX7_parseNumber_46 ?_
          refine g_topi (fun x8 ex8 => ?_)
          replace hw := hw x8 ex8
          refine g_put (ty := .int) (ws' := [(a0, .inr (8, [.ref a1, .ref a2, .int tn, .int x8, .int tc])), (a1, .inl (cy 1, 80, .inl tL)), (a2, .inr (7, [.int 5, .ref a3])), (a3, .inl (cy 0, 135, .inl tC))]) K (C := RX7) (T := TX7) (N := 5) 0 3 in_X7_parseNumber_X7 tyX7 tyX7_ok nmX7 (by decide +kernel) rfl rfl (by decide) rfl (by decide +kernel) rfl rfl (Nat.le_of_ble_eq_true rfl) rfl dX7_parseNumber_47 ?_
          obtain ⟨x9, ex9⟩ : ∃ z : Int32, z = v1 + 1 := ⟨_, rfl⟩
          replace hw := hw x9 ex9
          refine g_iinc (v := x9) (lv' := [(3, .int x9), (2, .int x7), (0, .ref a0), (1, .int p0)]) K 1 dX7_parseNumber_50 rfl (by rw [ex9]; rfl) (by rw [En]; decide) rfl ?_
          refine g_goto (tgt := 4) K dX7_parseNumber_53 (by decide) ?_
          exact ih _ _ _ hw
  refine key _ (fun v10 v11 v12 hw => ?_) fl _ _ _ hw
  refine g_iload_n K 1 dX7_parseNumber_56 rfl ?_
  exact g_zret K E Er (v11, v12) hw rfl rfl rfl (Nat.le_refl _) (Nat.le_refl _) dX7_parseNumber_57

def wp_X7_takes (tL : XRow) (tn : Int32) (tp : Int32) (p0 : Int32) (post : (Bool × Int32) → Prop) : Prop := wp_X7_peek tL tn tp (fun u1 : Int32 => (u1 = p0 → (∀ x2 : Int32, x2 = tp + 1 → (post (true, x2)))) ∧ (¬ u1 = p0 → (post (false, tp))))
theorem in_X7_takes_X7 : ∀ w ∈ u_ws RX7 TX7 5, w ∈ wsX7_takes := by decide +kernel
set_option maxRecDepth 100000 in
set_option maxHeartbeats 4000000 in
theorem c_X7_takes (l : Launch) (D : va_G) (cy : Nat → ClassId) (sd : xSd) (a0 a1 a2 a3 : Nat) (tL : XRow) (tC : XRow) (tn : Int32) (tp : Int32) (tc : Int32) (p0 : Int32) {post : (Bool × Int32) → Prop} (hw : wp_X7_takes tL tn tp p0 post) : Ctr l D (xTys cy) sd yX7_takes wsX7_takes ({ frames := 1, cells := 0, slots := 0, locals := 21 } : Room) [.ref a0, .int p0] (fun u : Bool × Int32 => some (.int (bI u.1))) [(a0, .inr (8, [.ref a1, .ref a2, .int tn, .int tp, .int tc])), (a1, .inl (cy 1, 80, .inl tL)), (a2, .inr (7, [.int 5, .ref a3])), (a3, .inl (cy 0, 135, .inl tC))] (fun u => [(a0, .inr (8, [.ref a1, .ref a2, .int tn, .int u.2, .int tc])), (a1, .inl (cy 1, 80, .inl tL)), (a2, .inr (7, [.int 5, .ref a3])), (a3, .inl (cy 0, 135, .inl tC))]) post := by
  refine Ctr.of (cc := cX7_takes) (maxL := 2) (ret := (some .boolean)) (lv0 := [(0, .ref a0), (1, .int p0)]) (by decide) rfl (Nat.le_of_ble_eq_true rfl) rfl ?_
  intro X El hR Er Enm ED E En K
  have K : Cx X cX7_takes RX7 wsX7_takes (xTys cy) sd := K
  have E : X.2.2.2.2.2.2.2.2.2.2.1 = xMQ X (fun u : Bool × Int32 => some (.int (bI u.1))) post (fun u => [(a0, .inr (8, [.ref a1, .ref a2, .int tn, .int u.2, .int tc])), (a1, .inl (cy 1, 80, .inl tL)), (a2, .inr (7, [.int 5, .ref a3])), (a3, .inl (cy 0, 135, .inl tC))]) 0 0 := E
  unfold wp_X7_takes at hw
  refine g_aload_n K 0 dX7_takes_0 rfl ?_
  refine g_callVr (st' := fun u1 => [.int u1]) K hR [] [] 0 rfl rfl (c_X7_peek X.2.1 (gxD X) cy sd a0 a1 a2 a3 tL tC tn tp tc hw) gX7_takes_X7_peek rfl yok_X7_peek rfl rfl (by decide) rfl (Nat.le_of_ble_eq_true rfl) dX7_takes_1 [0, 1, 2, 3] rfl (by decide) (fun _ => rfl) ⟨rfl, rfl⟩ (fun u1 hw => ?_)
  refine g_iload_n K 1 dX7_takes_4 rfl ?_
  refine g_icmp_eq (tgt := 10) K dX7_takes_5 (by decide) (fun hc => ?_) (fun hc => ?_)
  · replace hw := hw.1 hc
    refine g_aload_n K 0 dX7_takes_10 rfl ?_
    refine g_dup K dX7_takes_11 rfl ?_
    refine g_get K (C := RX7) (T := TX7) (N := 5) 0 3 in_X7_takes_X7 (by decide +kernel) rfl rfl (by decide) rfl dX7_takes_12 ?_
    refine g_iconst (v := 1) K dX7_takes_15 rfl ?_
    refine g_iadd K dX7_takes_16 ?_
    refine g_topi (fun x2 ex2 => ?_)
    replace hw := hw x2 ex2
    refine g_put (ty := .int) (ws' := [(a0, .inr (8, [.ref a1, .ref a2, .int tn, .int x2, .int tc])), (a1, .inl (cy 1, 80, .inl tL)), (a2, .inr (7, [.int 5, .ref a3])), (a3, .inl (cy 0, 135, .inl tC))]) K (C := RX7) (T := TX7) (N := 5) 0 3 in_X7_takes_X7 tyX7 tyX7_ok nmX7 (by decide +kernel) rfl rfl (by decide) rfl (by decide +kernel) rfl rfl (Nat.le_of_ble_eq_true rfl) rfl dX7_takes_17 ?_
    refine g_iconst (v := 1) K dX7_takes_20 rfl ?_
    exact g_zret K E Er (true, x2) hw rfl rfl rfl (Nat.le_refl _) (Nat.le_refl _) dX7_takes_21
  · replace hw := hw.2 hc
    refine g_iconst (v := 0) K dX7_takes_8 rfl ?_
    exact g_zret K E Er (false, tp) hw rfl rfl rfl (Nat.le_refl _) (Nat.le_refl _) dX7_takes_9

def wp_X7_parsesCommand_L45 (tL : XRow) (tn : Int32) (p0 : Int32) (u2 : Fin 4) (k45_100 : Int32 → Int32 → Int32 → XRow → Prop) (k45_129 : Int32 → Int32 → Int32 → XRow → Prop) (k45_137 : Int32 → Int32 → Int32 → XRow → Prop) : Nat → Int32 → Int32 → Int32 → XRow → Prop
  | 0, _, _, _, _ => False
  | fu + 1, v5, v6, v7, v8 => ((xLen u2) ≤ v5 → (k45_137 v5 v6 v7 v8)) ∧ (¬ (xLen u2) ≤ v5 → (vp_in v5 (xTl.getD (u2).val 0) ∧ (∀ x9 : Int32, x9 = xChr u2 v5 → ((x9 = 100 → ((x9 = 100 → (wp_X7_parseNumber tL tn v7 1 (fun u14 : Int32 × Int32 => (u14.1 = (-1) → (k45_100 v5 v6 u14.2 v8)) ∧ (¬ u14.1 = (-1) → (∀ x15 : Int32, x15 = v6 + 1 → (wp_X6_put 5 135 v8 p0 x15 u14.1 (fun u16 : XRow => ∀ x17 : Int32, x17 = v5 + 1 → (wp_X7_parsesCommand_L45 tL tn p0 u2 k45_100 k45_129 k45_137 fu x17 x15 u14.2 u16)))))))) ∧ (¬ x9 = 100 → (wp_X7_parseNumber tL tn v7 4 (fun u10 : Int32 × Int32 => (u10.1 = (-1) → (k45_100 v5 v6 u10.2 v8)) ∧ (¬ u10.1 = (-1) → (∀ x11 : Int32, x11 = v6 + 1 → (wp_X6_put 5 135 v8 p0 x11 u10.1 (fun u12 : XRow => ∀ x13 : Int32, x13 = v5 + 1 → (wp_X7_parsesCommand_L45 tL tn p0 u2 k45_100 k45_129 k45_137 fu x13 x11 u10.2 u12)))))))))) ∧ (¬ x9 = 100 → ((x9 = 110 → ((x9 = 100 → (wp_X7_parseNumber tL tn v7 1 (fun u24 : Int32 × Int32 => (u24.1 = (-1) → (k45_100 v5 v6 u24.2 v8)) ∧ (¬ u24.1 = (-1) → (∀ x25 : Int32, x25 = v6 + 1 → (wp_X6_put 5 135 v8 p0 x25 u24.1 (fun u26 : XRow => ∀ x27 : Int32, x27 = v5 + 1 → (wp_X7_parsesCommand_L45 tL tn p0 u2 k45_100 k45_129 k45_137 fu x27 x25 u24.2 u26)))))))) ∧ (¬ x9 = 100 → (wp_X7_parseNumber tL tn v7 4 (fun u20 : Int32 × Int32 => (u20.1 = (-1) → (k45_100 v5 v6 u20.2 v8)) ∧ (¬ u20.1 = (-1) → (∀ x21 : Int32, x21 = v6 + 1 → (wp_X6_put 5 135 v8 p0 x21 u20.1 (fun u22 : XRow => ∀ x23 : Int32, x23 = v5 + 1 → (wp_X7_parsesCommand_L45 tL tn p0 u2 k45_100 k45_129 k45_137 fu x23 x21 u20.2 u22)))))))))) ∧ (¬ x9 = 110 → (wp_X7_takes tL tn v7 x9 (fun u18 : Bool × Int32 => (u18.1 = true → (∀ x19 : Int32, x19 = v5 + 1 → (wp_X7_parsesCommand_L45 tL tn p0 u2 k45_100 k45_129 k45_137 fu x19 v6 u18.2 v8))) ∧ (u18.1 = false → (k45_129 v5 v6 u18.2 v8)))))))))))
def wp_X7_parsesCommand (tL : XRow) (tC : XRow) (tn : Int32) (tp : Int32) (p0 : Int32) (post : (Bool × Int32 × XRow) → Prop) : Prop := wp_X7_peek tL tn tp (fun u1 : Int32 => wp_X7_formOf u1 (fun u2 : Fin 4 => ((xEmpty u2) = true → (post (false, tp, tC))) ∧ ((xEmpty u2) = false → (∀ x3 : Int32, x3 = tp + 1 → (wp_X6_put 5 135 tC p0 0 u1 (fun u4 : XRow => ∃ fl, wp_X7_parsesCommand_L45 tL tn p0 u2 (fun (v28 : Int32) (v29 : Int32) (v30 : Int32) (v31 : XRow) => post (false, v30, v31)) (fun (v32 : Int32) (v33 : Int32) (v34 : Int32) (v35 : XRow) => post (false, v34, v35)) (fun (v36 : Int32) (v37 : Int32) (v38 : Int32) (v39 : XRow) => post (true, v38, v39)) fl 0 0 x3 u4))))))
theorem in_X7_parsesCommand_X7 : ∀ w ∈ u_ws RX7 TX7 5, w ∈ wsX7_parsesCommand := by decide +kernel
set_option maxRecDepth 100000 in
set_option maxHeartbeats 4000000 in
theorem c_X7_parsesCommand (l : Launch) (D : va_G) (cy : Nat → ClassId) (sd : xSd) (a0 a1 a2 a3 : Nat) (tL : XRow) (tC : XRow) (tn : Int32) (tp : Int32) (tc : Int32) (p0 : Int32) {post : (Bool × Int32 × XRow) → Prop} (hw : wp_X7_parsesCommand tL tC tn tp p0 post) : Ctr l D (xTys cy) sd yX7_parsesCommand wsX7_parsesCommand ({ frames := 6, cells := 0, slots := 0, locals := 140 } : Room) [.ref a0, .int p0] (fun u : Bool × Int32 × XRow => some (.int (bI u.1))) [(a0, .inr (8, [.ref a1, .ref a2, .int tn, .int tp, .int tc])), (a1, .inl (cy 1, 80, .inl tL)), (a2, .inr (7, [.int 5, .ref a3])), (a3, .inl (cy 0, 135, .inl tC))] (fun u => [(a0, .inr (8, [.ref a1, .ref a2, .int tn, .int u.2.1, .int tc])), (a1, .inl (cy 1, 80, .inl tL)), (a2, .inr (7, [.int 5, .ref a3])), (a3, .inl (cy 0, 135, .inl u.2.2))]) post := by
  refine Ctr.of (cc := cX7_parsesCommand) (maxL := 8) (ret := (some .boolean)) (lv0 := [(0, .ref a0), (1, .int p0)]) (by decide) rfl (Nat.le_of_ble_eq_true rfl) rfl ?_
  intro X El hR Er Enm ED E En K
  have K : Cx X cX7_parsesCommand RX7 wsX7_parsesCommand (xTys cy) sd := K
  have E : X.2.2.2.2.2.2.2.2.2.2.1 = xMQ X (fun u : Bool × Int32 × XRow => some (.int (bI u.1))) post (fun u => [(a0, .inr (8, [.ref a1, .ref a2, .int tn, .int u.2.1, .int tc])), (a1, .inl (cy 1, 80, .inl tL)), (a2, .inr (7, [.int 5, .ref a3])), (a3, .inl (cy 0, 135, .inl u.2.2))]) 0 0 := E
  unfold wp_X7_parsesCommand at hw
  refine g_aload_n K 0 dX7_parsesCommand_0 rfl ?_
  refine g_callVr (st' := fun u1 => [.int u1]) K hR [] [] 0 rfl rfl (c_X7_peek X.2.1 (gxD X) cy sd a0 a1 a2 a3 tL tC tn tp tc hw) gX7_parsesCommand_X7_peek rfl yok_X7_peek rfl rfl (by decide) rfl (Nat.le_of_ble_eq_true rfl) dX7_parsesCommand_1 [0, 1, 2, 3] rfl (by decide) (fun _ => rfl) ⟨rfl, rfl⟩ (fun u1 hw => ?_)
  refine g_istore_n (lv' := [(2, .int u1), (0, .ref a0), (1, .int p0)]) K dX7_parsesCommand_4 rfl (by rw [En]; decide) rfl ?_
  refine g_iload_n K 0 dX7_parsesCommand_5 rfl ?_
  refine g_callSr (st' := fun u2 => [.ref (sd.2.2.1 u2.val)]) K hR [.int u1] [] (c_X7_formOf X.2.1 (gxD X) cy sd u1 hw) gX7_parsesCommand_X7_formOf rfl yok_X7_formOf rfl (by decide) rfl (Nat.le_of_ble_eq_true rfl) dX7_parsesCommand_6 [] rfl (by decide) (fun _ => rfl) ⟨rfl, rfl⟩ (fun u2 hw => ?_)
  refine g_astore_n (lv' := [(3, .ref (sd.2.2.1 u2.val)), (2, .int u1), (0, .ref a0), (1, .int p0)]) K dX7_parsesCommand_9 rfl (by rw [En]; decide) rfl ?_
  refine g_aload_n K 0 dX7_parsesCommand_10 rfl ?_
  refine g_str_isEmpty K hR u2 gX7_parsesCommand_J0_isEmpty_aae02 (by decide) (Nat.le_of_ble_eq_true rfl) dX7_parsesCommand_11 ?_
  refine g_ifb_eq (tgt := 19) K dX7_parsesCommand_14 (by decide) (fun hc => ?_) (fun hc => ?_)
  · replace hw := hw.2 hc
    refine g_aload_n K 2 dX7_parsesCommand_19 rfl ?_
    refine g_dup K dX7_parsesCommand_20 rfl ?_
    refine g_get K (C := RX7) (T := TX7) (N := 5) 0 3 in_X7_parsesCommand_X7 (by decide +kernel) rfl rfl (by decide) rfl dX7_parsesCommand_21 ?_
    refine g_iconst (v := 1) K dX7_parsesCommand_24 rfl ?_
    refine g_iadd K dX7_parsesCommand_25 ?_
    refine g_topi (fun x3 ex3 => ?_)
    replace hw := hw x3 ex3
    refine g_put (ty := .int) (ws' := [(a0, .inr (8, [.ref a1, .ref a2, .int tn, .int x3, .int tc])), (a1, .inl (cy 1, 80, .inl tL)), (a2, .inr (7, [.int 5, .ref a3])), (a3, .inl (cy 0, 135, .inl tC))]) K (C := RX7) (T := TX7) (N := 5) 0 3 in_X7_parsesCommand_X7 tyX7 tyX7_ok nmX7 (by decide +kernel) rfl rfl (by decide) rfl (by decide +kernel) rfl rfl (Nat.le_of_ble_eq_true rfl) rfl dX7_parsesCommand_26 ?_
    refine g_aload_n K 2 dX7_parsesCommand_29 rfl ?_
    refine g_get K (C := RX7) (T := TX7) (N := 5) 0 1 in_X7_parsesCommand_X7 (by decide +kernel) rfl rfl (by decide) rfl dX7_parsesCommand_30 ?_
    refine g_iload_n K 3 dX7_parsesCommand_33 rfl ?_
    refine g_iconst (v := 0) K dX7_parsesCommand_34 rfl ?_
    refine g_iload_n K 1 dX7_parsesCommand_35 rfl ?_
    refine g_callV (st' := fun u4 => []) (ws' := fun u4 => [(a0, .inr (8, [.ref a1, .ref a2, .int tn, .int x3, .int tc])), (a1, .inl (cy 1, 80, .inl tL)), (a2, .inr (7, [.int 5, .ref a3])), (a3, .inl (cy 0, 135, .inl u4))]) K hR [.int p0, .int 0, .int u1] [] 2 rfl rfl (c_X6_put X.2.1 (gxD X) cy sd a2 a3 5 135 tC p0 0 u1 hw) gX7_parsesCommand_X6_put rfl yok_X6_put rfl rfl (by decide) rfl (Nat.le_of_ble_eq_true rfl) dX7_parsesCommand_36 [2, 3] rfl (by decide) (fun _ => rfl) (fun _ => rfl) (fun _ => rfl) ⟨rfl, rfl⟩ (fun u4 hw => ?_)
    refine g_iconst (v := 0) K dX7_parsesCommand_39 rfl ?_
    refine g_istore (lv' := [(4, .int 0), (3, .ref (sd.2.2.1 u2.val)), (2, .int u1), (0, .ref a0), (1, .int p0)]) K dX7_parsesCommand_40 (by rw [En]; decide) rfl ?_
    refine g_iconst (v := 0) K dX7_parsesCommand_42 rfl ?_
    refine g_istore (lv' := [(5, .int 0), (4, .int 0), (3, .ref (sd.2.2.1 u2.val)), (2, .int u1), (0, .ref a0), (1, .int p0)]) K dX7_parsesCommand_43 (by rw [En]; decide) rfl ?_
    obtain ⟨fl, hw⟩ := hw
    have key : ∀ (k45_100 : Int32 → Int32 → Int32 → XRow → Prop) (k45_129 : Int32 → Int32 → Int32 → XRow → Prop) (k45_137 : Int32 → Int32 → Int32 → XRow → Prop), (∀ (v5 : Int32) (v6 : Int32) (v7 : Int32) (v8 : XRow), k45_100 v5 v6 v7 v8 → Gx X 0 0 [(a0, .inr (8, [.ref a1, .ref a2, .int tn, .int v7, .int tc])), (a1, .inl (cy 1, 80, .inl tL)), (a2, .inr (7, [.int 5, .ref a3])), (a3, .inl (cy 0, 135, .inl v8))] [(5, .int v5), (4, .int v6), (3, .ref (sd.2.2.1 u2.val)), (2, .int u1), (0, .ref a0), (1, .int p0)] 100 []) → (∀ (v5 : Int32) (v6 : Int32) (v7 : Int32) (v8 : XRow), k45_129 v5 v6 v7 v8 → Gx X 0 0 [(a0, .inr (8, [.ref a1, .ref a2, .int tn, .int v7, .int tc])), (a1, .inl (cy 1, 80, .inl tL)), (a2, .inr (7, [.int 5, .ref a3])), (a3, .inl (cy 0, 135, .inl v8))] [(5, .int v5), (4, .int v6), (3, .ref (sd.2.2.1 u2.val)), (2, .int u1), (0, .ref a0), (1, .int p0)] 129 []) → (∀ (v5 : Int32) (v6 : Int32) (v7 : Int32) (v8 : XRow), k45_137 v5 v6 v7 v8 → Gx X 0 0 [(a0, .inr (8, [.ref a1, .ref a2, .int tn, .int v7, .int tc])), (a1, .inl (cy 1, 80, .inl tL)), (a2, .inr (7, [.int 5, .ref a3])), (a3, .inl (cy 0, 135, .inl v8))] [(5, .int v5), (4, .int v6), (3, .ref (sd.2.2.1 u2.val)), (2, .int u1), (0, .ref a0), (1, .int p0)] 137 []) → ∀ (n : Nat) (v5 : Int32) (v6 : Int32) (v7 : Int32) (v8 : XRow), wp_X7_parsesCommand_L45 tL tn p0 u2 k45_100 k45_129 k45_137 n v5 v6 v7 v8 → Gx X 0 0 [(a0, .inr (8, [.ref a1, .ref a2, .int tn, .int v7, .int tc])), (a1, .inl (cy 1, 80, .inl tL)), (a2, .inr (7, [.int 5, .ref a3])), (a3, .inl (cy 0, 135, .inl v8))] [(5, .int v5), (4, .int v6), (3, .ref (sd.2.2.1 u2.val)), (2, .int u1), (0, .ref a0), (1, .int p0)] 45 [] := by
      intro k45_100 k45_129 k45_137 hx100 hx129 hx137 n
      induction n with
      | zero => intro v5 v6 v7 v8 hw; exact hw.elim
      | succ n ih =>
        intro v5 v6 v7 v8 hw
        refine g_iload K 0 dX7_parsesCommand_45 rfl ?_
        refine g_aload_n K 2 dX7_parsesCommand_47 rfl ?_
        refine g_str_length K hR u2 gX7_parsesCommand_J0_length_8abf5 (by decide) (Nat.le_of_ble_eq_true rfl) dX7_parsesCommand_48 ?_
        refine g_icmp_ge (tgt := 137) K dX7_parsesCommand_51 (by decide) (fun hc => ?_) (fun hc => ?_)
        · replace hw := hw.1 hc
          exact hx137 _ _ _ _ hw
        · replace hw := hw.2 hc
          refine g_aload_n K 2 dX7_parsesCommand_54 rfl ?_
          refine g_iload K 0 dX7_parsesCommand_55 rfl ?_
          refine g_str_charAt K hR u2 gX7_parsesCommand_J0_charAt_5068e hw.1 (by decide) (Nat.le_of_ble_eq_true rfl) dX7_parsesCommand_57 ?_
          replace hw := hw.2
          refine g_topi (fun x9 ex9 => ?_)
          replace hw := hw x9 ex9
          refine g_istore (lv' := [(6, .int x9), (5, .int v5), (4, .int v6), (3, .ref (sd.2.2.1 u2.val)), (2, .int u1), (0, .ref a0), (1, .int p0)]) K dX7_parsesCommand_60 (by rw [En]; decide) rfl ?_
          refine g_iload K 0 dX7_parsesCommand_62 rfl ?_
          refine g_bipush (v := 100) K dX7_parsesCommand_64 rfl ?_
          refine g_icmp_eq (tgt := 76) K dX7_parsesCommand_66 (by decide) (fun hc => ?_) (fun hc => ?_)
          · replace hw := hw.1 hc
            refine g_aload_n K 5 dX7_parsesCommand_76 rfl ?_
            refine g_iload K 0 dX7_parsesCommand_77 rfl ?_
            refine g_bipush (v := 100) K dX7_parsesCommand_79 rfl ?_
            refine g_icmp_ne (tgt := 88) K dX7_parsesCommand_81 (by decide) (fun hc => ?_) (fun hc => ?_)
            · replace hw := hw.2 hc
              refine g_iconst (v := 4) K dX7_parsesCommand_88 rfl ?_
              refine g_callV (st' := fun u10 => [.int u10.1]) (ws' := fun u10 => [(a0, .inr (8, [.ref a1, .ref a2, .int tn, .int u10.2, .int tc])), (a1, .inl (cy 1, 80, .inl tL)), (a2, .inr (7, [.int 5, .ref a3])), (a3, .inl (cy 0, 135, .inl v8))]) K hR [.int 4] [] 0 rfl rfl (c_X7_parseNumber X.2.1 (gxD X) cy sd a0 a1 a2 a3 tL v8 tn v7 tc 4 hw) gX7_parsesCommand_X7_parseNumber rfl yok_X7_parseNumber rfl rfl (by decide) rfl (Nat.le_of_ble_eq_true rfl) dX7_parsesCommand_89 [0, 1, 2, 3] rfl (by decide) (fun _ => rfl) (fun _ => rfl) (fun _ => rfl) ⟨rfl, rfl⟩ (fun u10 hw => ?_)
              refine g_istore (lv' := [(7, .int u10.1), (6, .int x9), (5, .int v5), (4, .int v6), (3, .ref (sd.2.2.1 u2.val)), (2, .int u1), (0, .ref a0), (1, .int p0)]) K dX7_parsesCommand_92 (by rw [En]; decide) rfl ?_
              refine g_iload K 0 dX7_parsesCommand_94 rfl ?_
              refine g_iconst (v := (-1)) K dX7_parsesCommand_96 rfl ?_
              refine g_icmp_ne (tgt := 102) K dX7_parsesCommand_97 (by decide) (fun hc => ?_) (fun hc => ?_)
              · replace hw := hw.2 hc
                obtain ⟨x11, ex11⟩ : ∃ z : Int32, z = v6 + 1 := ⟨_, rfl⟩
                replace hw := hw x11 ex11
                refine g_iinc (v := x11) (lv' := [(4, .int x11), (7, .int u10.1), (6, .int x9), (5, .int v5), (3, .ref (sd.2.2.1 u2.val)), (2, .int u1), (0, .ref a0), (1, .int p0)]) K 3 dX7_parsesCommand_102 rfl (by rw [ex11]; rfl) (by rw [En]; decide) rfl ?_
                refine g_aload_n K 6 dX7_parsesCommand_105 rfl ?_
                refine g_get K (C := RX7) (T := TX7) (N := 5) 0 1 in_X7_parsesCommand_X7 (by decide +kernel) rfl rfl (by decide) rfl dX7_parsesCommand_106 ?_
                refine g_iload_n K 7 dX7_parsesCommand_109 rfl ?_
                refine g_iload K 0 dX7_parsesCommand_110 rfl ?_
                refine g_iload K 1 dX7_parsesCommand_112 rfl ?_
                refine g_callV (st' := fun u12 => []) (ws' := fun u12 => [(a0, .inr (8, [.ref a1, .ref a2, .int tn, .int u10.2, .int tc])), (a1, .inl (cy 1, 80, .inl tL)), (a2, .inr (7, [.int 5, .ref a3])), (a3, .inl (cy 0, 135, .inl u12))]) K hR [.int p0, .int x11, .int u10.1] [] 2 rfl rfl (c_X6_put X.2.1 (gxD X) cy sd a2 a3 5 135 v8 p0 x11 u10.1 hw) gX7_parsesCommand_X6_put rfl yok_X6_put rfl rfl (by decide) rfl (Nat.le_of_ble_eq_true rfl) dX7_parsesCommand_114 [2, 3] rfl (by decide) (fun _ => rfl) (fun _ => rfl) (fun _ => rfl) ⟨rfl, rfl⟩ (fun u12 hw => ?_)
                refine g_goto (tgt := 131) K dX7_parsesCommand_117 (by decide) ?_
                obtain ⟨x13, ex13⟩ : ∃ z : Int32, z = v5 + 1 := ⟨_, rfl⟩
                replace hw := hw x13 ex13
                refine g_iinc (v := x13) (lv' := [(5, .int x13), (4, .int x11), (7, .int u10.1), (6, .int x9), (3, .ref (sd.2.2.1 u2.val)), (2, .int u1), (0, .ref a0), (1, .int p0)]) K 3 dX7_parsesCommand_131 rfl (by rw [ex13]; rfl) (by rw [En]; decide) rfl ?_
                refine g_goto (tgt := 45) K dX7_parsesCommand_134 (by decide) ?_
                refine gx_locals [0, 1, 4, 5, 6, 7] rfl ?_
                exact ih _ _ _ _ hw
              · replace hw := hw.1 hc
                refine gx_locals [2, 3, 4, 5, 6, 7] rfl ?_
                exact hx100 _ _ _ _ hw
            · replace hw := hw.1 hc
              refine g_iconst (v := 1) K dX7_parsesCommand_84 rfl ?_
              refine g_goto (tgt := 89) K dX7_parsesCommand_85 (by decide) ?_
              refine g_callV (st' := fun u14 => [.int u14.1]) (ws' := fun u14 => [(a0, .inr (8, [.ref a1, .ref a2, .int tn, .int u14.2, .int tc])), (a1, .inl (cy 1, 80, .inl tL)), (a2, .inr (7, [.int 5, .ref a3])), (a3, .inl (cy 0, 135, .inl v8))]) K hR [.int 1] [] 0 rfl rfl (c_X7_parseNumber X.2.1 (gxD X) cy sd a0 a1 a2 a3 tL v8 tn v7 tc 1 hw) gX7_parsesCommand_X7_parseNumber rfl yok_X7_parseNumber rfl rfl (by decide) rfl (Nat.le_of_ble_eq_true rfl) dX7_parsesCommand_89 [0, 1, 2, 3] rfl (by decide) (fun _ => rfl) (fun _ => rfl) (fun _ => rfl) ⟨rfl, rfl⟩ (fun u14 hw => ?_)
              refine g_istore (lv' := [(7, .int u14.1), (6, .int x9), (5, .int v5), (4, .int v6), (3, .ref (sd.2.2.1 u2.val)), (2, .int u1), (0, .ref a0), (1, .int p0)]) K dX7_parsesCommand_92 (by rw [En]; decide) rfl ?_
              refine g_iload K 0 dX7_parsesCommand_94 rfl ?_
              refine g_iconst (v := (-1)) K dX7_parsesCommand_96 rfl ?_
              refine g_icmp_ne (tgt := 102) K dX7_parsesCommand_97 (by decide) (fun hc => ?_) (fun hc => ?_)
              · replace hw := hw.2 hc
                obtain ⟨x15, ex15⟩ : ∃ z : Int32, z = v6 + 1 := ⟨_, rfl⟩
                replace hw := hw x15 ex15
                refine g_iinc (v := x15) (lv' := [(4, .int x15), (7, .int u14.1), (6, .int x9), (5, .int v5), (3, .ref (sd.2.2.1 u2.val)), (2, .int u1), (0, .ref a0), (1, .int p0)]) K 3 dX7_parsesCommand_102 rfl (by rw [ex15]; rfl) (by rw [En]; decide) rfl ?_
                refine g_aload_n K 6 dX7_parsesCommand_105 rfl ?_
                refine g_get K (C := RX7) (T := TX7) (N := 5) 0 1 in_X7_parsesCommand_X7 (by decide +kernel) rfl rfl (by decide) rfl dX7_parsesCommand_106 ?_
                refine g_iload_n K 7 dX7_parsesCommand_109 rfl ?_
                refine g_iload K 0 dX7_parsesCommand_110 rfl ?_
                refine g_iload K 1 dX7_parsesCommand_112 rfl ?_
                refine g_callV (st' := fun u16 => []) (ws' := fun u16 => [(a0, .inr (8, [.ref a1, .ref a2, .int tn, .int u14.2, .int tc])), (a1, .inl (cy 1, 80, .inl tL)), (a2, .inr (7, [.int 5, .ref a3])), (a3, .inl (cy 0, 135, .inl u16))]) K hR [.int p0, .int x15, .int u14.1] [] 2 rfl rfl (c_X6_put X.2.1 (gxD X) cy sd a2 a3 5 135 v8 p0 x15 u14.1 hw) gX7_parsesCommand_X6_put rfl yok_X6_put rfl rfl (by decide) rfl (Nat.le_of_ble_eq_true rfl) dX7_parsesCommand_114 [2, 3] rfl (by decide) (fun _ => rfl) (fun _ => rfl) (fun _ => rfl) ⟨rfl, rfl⟩ (fun u16 hw => ?_)
                refine g_goto (tgt := 131) K dX7_parsesCommand_117 (by decide) ?_
                obtain ⟨x17, ex17⟩ : ∃ z : Int32, z = v5 + 1 := ⟨_, rfl⟩
                replace hw := hw x17 ex17
                refine g_iinc (v := x17) (lv' := [(5, .int x17), (4, .int x15), (7, .int u14.1), (6, .int x9), (3, .ref (sd.2.2.1 u2.val)), (2, .int u1), (0, .ref a0), (1, .int p0)]) K 3 dX7_parsesCommand_131 rfl (by rw [ex17]; rfl) (by rw [En]; decide) rfl ?_
                refine g_goto (tgt := 45) K dX7_parsesCommand_134 (by decide) ?_
                refine gx_locals [0, 1, 4, 5, 6, 7] rfl ?_
                exact ih _ _ _ _ hw
              · replace hw := hw.1 hc
                refine gx_locals [2, 3, 4, 5, 6, 7] rfl ?_
                exact hx100 _ _ _ _ hw
          · replace hw := hw.2 hc
            refine g_iload K 0 dX7_parsesCommand_69 rfl ?_
            refine g_bipush (v := 110) K dX7_parsesCommand_71 rfl ?_
            refine g_icmp_ne (tgt := 120) K dX7_parsesCommand_73 (by decide) (fun hc => ?_) (fun hc => ?_)
            · replace hw := hw.2 hc
              refine g_aload_n K 5 dX7_parsesCommand_120 rfl ?_
              refine g_iload K 0 dX7_parsesCommand_121 rfl ?_
              refine g_callV (st' := fun u18 => [.int (bI u18.1)]) (ws' := fun u18 => [(a0, .inr (8, [.ref a1, .ref a2, .int tn, .int u18.2, .int tc])), (a1, .inl (cy 1, 80, .inl tL)), (a2, .inr (7, [.int 5, .ref a3])), (a3, .inl (cy 0, 135, .inl v8))]) K hR [.int x9] [] 0 rfl rfl (c_X7_takes X.2.1 (gxD X) cy sd a0 a1 a2 a3 tL v8 tn v7 tc x9 hw) gX7_parsesCommand_X7_takes rfl yok_X7_takes rfl rfl (by decide) rfl (Nat.le_of_ble_eq_true rfl) dX7_parsesCommand_123 [0, 1, 2, 3] rfl (by decide) (fun _ => rfl) (fun _ => rfl) (fun _ => rfl) ⟨rfl, rfl⟩ (fun u18 hw => ?_)
              refine g_ifb_ne (tgt := 131) K dX7_parsesCommand_126 (by decide) (fun hc => ?_) (fun hc => ?_)
              · replace hw := hw.1 hc
                obtain ⟨x19, ex19⟩ : ∃ z : Int32, z = v5 + 1 := ⟨_, rfl⟩
                replace hw := hw x19 ex19
                refine g_iinc (v := x19) (lv' := [(5, .int x19), (6, .int x9), (4, .int v6), (3, .ref (sd.2.2.1 u2.val)), (2, .int u1), (0, .ref a0), (1, .int p0)]) K 1 dX7_parsesCommand_131 rfl (by rw [ex19]; rfl) (by rw [En]; decide) rfl ?_
                refine g_goto (tgt := 45) K dX7_parsesCommand_134 (by decide) ?_
                refine gx_locals [0, 2, 3, 4, 5, 6] rfl ?_
                exact ih _ _ _ _ hw
              · replace hw := hw.2 hc
                refine gx_locals [1, 2, 3, 4, 5, 6] rfl ?_
                exact hx129 _ _ _ _ hw
            · replace hw := hw.1 hc
              refine g_aload_n K 5 dX7_parsesCommand_76 rfl ?_
              refine g_iload K 0 dX7_parsesCommand_77 rfl ?_
              refine g_bipush (v := 100) K dX7_parsesCommand_79 rfl ?_
              refine g_icmp_ne (tgt := 88) K dX7_parsesCommand_81 (by decide) (fun hc => ?_) (fun hc => ?_)
              · replace hw := hw.2 hc
                refine g_iconst (v := 4) K dX7_parsesCommand_88 rfl ?_
                refine g_callV (st' := fun u20 => [.int u20.1]) (ws' := fun u20 => [(a0, .inr (8, [.ref a1, .ref a2, .int tn, .int u20.2, .int tc])), (a1, .inl (cy 1, 80, .inl tL)), (a2, .inr (7, [.int 5, .ref a3])), (a3, .inl (cy 0, 135, .inl v8))]) K hR [.int 4] [] 0 rfl rfl (c_X7_parseNumber X.2.1 (gxD X) cy sd a0 a1 a2 a3 tL v8 tn v7 tc 4 hw) gX7_parsesCommand_X7_parseNumber rfl yok_X7_parseNumber rfl rfl (by decide) rfl (Nat.le_of_ble_eq_true rfl) dX7_parsesCommand_89 [0, 1, 2, 3] rfl (by decide) (fun _ => rfl) (fun _ => rfl) (fun _ => rfl) ⟨rfl, rfl⟩ (fun u20 hw => ?_)
                refine g_istore (lv' := [(7, .int u20.1), (6, .int x9), (5, .int v5), (4, .int v6), (3, .ref (sd.2.2.1 u2.val)), (2, .int u1), (0, .ref a0), (1, .int p0)]) K dX7_parsesCommand_92 (by rw [En]; decide) rfl ?_
                refine g_iload K 0 dX7_parsesCommand_94 rfl ?_
                refine g_iconst (v := (-1)) K dX7_parsesCommand_96 rfl ?_
                refine g_icmp_ne (tgt := 102) K dX7_parsesCommand_97 (by decide) (fun hc => ?_) (fun hc => ?_)
                · replace hw := hw.2 hc
                  obtain ⟨x21, ex21⟩ : ∃ z : Int32, z = v6 + 1 := ⟨_, rfl⟩
                  replace hw := hw x21 ex21
                  refine g_iinc (v := x21) (lv' := [(4, .int x21), (7, .int u20.1), (6, .int x9), (5, .int v5), (3, .ref (sd.2.2.1 u2.val)), (2, .int u1), (0, .ref a0), (1, .int p0)]) K 3 dX7_parsesCommand_102 rfl (by rw [ex21]; rfl) (by rw [En]; decide) rfl ?_
                  refine g_aload_n K 6 dX7_parsesCommand_105 rfl ?_
                  refine g_get K (C := RX7) (T := TX7) (N := 5) 0 1 in_X7_parsesCommand_X7 (by decide +kernel) rfl rfl (by decide) rfl dX7_parsesCommand_106 ?_
                  refine g_iload_n K 7 dX7_parsesCommand_109 rfl ?_
                  refine g_iload K 0 dX7_parsesCommand_110 rfl ?_
                  refine g_iload K 1 dX7_parsesCommand_112 rfl ?_
                  refine g_callV (st' := fun u22 => []) (ws' := fun u22 => [(a0, .inr (8, [.ref a1, .ref a2, .int tn, .int u20.2, .int tc])), (a1, .inl (cy 1, 80, .inl tL)), (a2, .inr (7, [.int 5, .ref a3])), (a3, .inl (cy 0, 135, .inl u22))]) K hR [.int p0, .int x21, .int u20.1] [] 2 rfl rfl (c_X6_put X.2.1 (gxD X) cy sd a2 a3 5 135 v8 p0 x21 u20.1 hw) gX7_parsesCommand_X6_put rfl yok_X6_put rfl rfl (by decide) rfl (Nat.le_of_ble_eq_true rfl) dX7_parsesCommand_114 [2, 3] rfl (by decide) (fun _ => rfl) (fun _ => rfl) (fun _ => rfl) ⟨rfl, rfl⟩ (fun u22 hw => ?_)
                  refine g_goto (tgt := 131) K dX7_parsesCommand_117 (by decide) ?_
                  obtain ⟨x23, ex23⟩ : ∃ z : Int32, z = v5 + 1 := ⟨_, rfl⟩
                  replace hw := hw x23 ex23
                  refine g_iinc (v := x23) (lv' := [(5, .int x23), (4, .int x21), (7, .int u20.1), (6, .int x9), (3, .ref (sd.2.2.1 u2.val)), (2, .int u1), (0, .ref a0), (1, .int p0)]) K 3 dX7_parsesCommand_131 rfl (by rw [ex23]; rfl) (by rw [En]; decide) rfl ?_
                  refine g_goto (tgt := 45) K dX7_parsesCommand_134 (by decide) ?_
                  refine gx_locals [0, 1, 4, 5, 6, 7] rfl ?_
                  exact ih _ _ _ _ hw
                · replace hw := hw.1 hc
                  refine gx_locals [2, 3, 4, 5, 6, 7] rfl ?_
                  exact hx100 _ _ _ _ hw
              · replace hw := hw.1 hc
                refine g_iconst (v := 1) K dX7_parsesCommand_84 rfl ?_
                refine g_goto (tgt := 89) K dX7_parsesCommand_85 (by decide) ?_
                refine g_callV (st' := fun u24 => [.int u24.1]) (ws' := fun u24 => [(a0, .inr (8, [.ref a1, .ref a2, .int tn, .int u24.2, .int tc])), (a1, .inl (cy 1, 80, .inl tL)), (a2, .inr (7, [.int 5, .ref a3])), (a3, .inl (cy 0, 135, .inl v8))]) K hR [.int 1] [] 0 rfl rfl (c_X7_parseNumber X.2.1 (gxD X) cy sd a0 a1 a2 a3 tL v8 tn v7 tc 1 hw) gX7_parsesCommand_X7_parseNumber rfl yok_X7_parseNumber rfl rfl (by decide) rfl (Nat.le_of_ble_eq_true rfl) dX7_parsesCommand_89 [0, 1, 2, 3] rfl (by decide) (fun _ => rfl) (fun _ => rfl) (fun _ => rfl) ⟨rfl, rfl⟩ (fun u24 hw => ?_)
                refine g_istore (lv' := [(7, .int u24.1), (6, .int x9), (5, .int v5), (4, .int v6), (3, .ref (sd.2.2.1 u2.val)), (2, .int u1), (0, .ref a0), (1, .int p0)]) K dX7_parsesCommand_92 (by rw [En]; decide) rfl ?_
                refine g_iload K 0 dX7_parsesCommand_94 rfl ?_
                refine g_iconst (v := (-1)) K dX7_parsesCommand_96 rfl ?_
                refine g_icmp_ne (tgt := 102) K dX7_parsesCommand_97 (by decide) (fun hc => ?_) (fun hc => ?_)
                · replace hw := hw.2 hc
                  obtain ⟨x25, ex25⟩ : ∃ z : Int32, z = v6 + 1 := ⟨_, rfl⟩
                  replace hw := hw x25 ex25
                  refine g_iinc (v := x25) (lv' := [(4, .int x25), (7, .int u24.1), (6, .int x9), (5, .int v5), (3, .ref (sd.2.2.1 u2.val)), (2, .int u1), (0, .ref a0), (1, .int p0)]) K 3 dX7_parsesCommand_102 rfl (by rw [ex25]; rfl) (by rw [En]; decide) rfl ?_
                  refine g_aload_n K 6 dX7_parsesCommand_105 rfl ?_
                  refine g_get K (C := RX7) (T := TX7) (N := 5) 0 1 in_X7_parsesCommand_X7 (by decide +kernel) rfl rfl (by decide) rfl dX7_parsesCommand_106 ?_
                  refine g_iload_n K 7 dX7_parsesCommand_109 rfl ?_
                  refine g_iload K 0 dX7_parsesCommand_110 rfl ?_
                  refine g_iload K 1 dX7_parsesCommand_112 rfl ?_
                  refine g_callV (st' := fun u26 => []) (ws' := fun u26 => [(a0, .inr (8, [.ref a1, .ref a2, .int tn, .int u24.2, .int tc])), (a1, .inl (cy 1, 80, .inl tL)), (a2, .inr (7, [.int 5, .ref a3])), (a3, .inl (cy 0, 135, .inl u26))]) K hR [.int p0, .int x25, .int u24.1] [] 2 rfl rfl (c_X6_put X.2.1 (gxD X) cy sd a2 a3 5 135 v8 p0 x25 u24.1 hw) gX7_parsesCommand_X6_put rfl yok_X6_put rfl rfl (by decide) rfl (Nat.le_of_ble_eq_true rfl) dX7_parsesCommand_114 [2, 3] rfl (by decide) (fun _ => rfl) (fun _ => rfl) (fun _ => rfl) ⟨rfl, rfl⟩ (fun u26 hw => ?_)
                  refine g_goto (tgt := 131) K dX7_parsesCommand_117 (by decide) ?_
                  obtain ⟨x27, ex27⟩ : ∃ z : Int32, z = v5 + 1 := ⟨_, rfl⟩
                  replace hw := hw x27 ex27
                  refine g_iinc (v := x27) (lv' := [(5, .int x27), (4, .int x25), (7, .int u24.1), (6, .int x9), (3, .ref (sd.2.2.1 u2.val)), (2, .int u1), (0, .ref a0), (1, .int p0)]) K 3 dX7_parsesCommand_131 rfl (by rw [ex27]; rfl) (by rw [En]; decide) rfl ?_
                  refine g_goto (tgt := 45) K dX7_parsesCommand_134 (by decide) ?_
                  refine gx_locals [0, 1, 4, 5, 6, 7] rfl ?_
                  exact ih _ _ _ _ hw
                · replace hw := hw.1 hc
                  refine gx_locals [2, 3, 4, 5, 6, 7] rfl ?_
                  exact hx100 _ _ _ _ hw
    refine key _ _ _ (fun v28 v29 v30 v31 hw => ?_) (fun v32 v33 v34 v35 hw => ?_) (fun v36 v37 v38 v39 hw => ?_) fl _ _ _ _ hw
    · refine g_iconst (v := 0) K dX7_parsesCommand_100 rfl ?_
      exact g_zret K E Er (false, v30, v31) hw rfl rfl rfl (Nat.le_refl _) (Nat.le_refl _) dX7_parsesCommand_101
    · refine g_iconst (v := 0) K dX7_parsesCommand_129 rfl ?_
      exact g_zret K E Er (false, v34, v35) hw rfl rfl rfl (Nat.le_refl _) (Nat.le_refl _) dX7_parsesCommand_130
    · refine g_iconst (v := 1) K dX7_parsesCommand_137 rfl ?_
      exact g_zret K E Er (true, v38, v39) hw rfl rfl rfl (Nat.le_refl _) (Nat.le_refl _) dX7_parsesCommand_138
  · replace hw := hw.1 hc
    refine g_iconst (v := 0) K dX7_parsesCommand_17 rfl ?_
    exact g_zret K E Er (false, tp, tC) hw rfl rfl rfl (Nat.le_refl _) (Nat.le_refl _) dX7_parsesCommand_18

def wp_X7_parse_L7 (tL : XRow) (tn : Int32) (k7_34 : Int32 → Int32 → Int32 → XRow → Prop) (k7_54 : Int32 → Int32 → Int32 → XRow → Prop) (k7_62 : Int32 → Int32 → Int32 → XRow → Prop) : Nat → Int32 → Int32 → Int32 → XRow → Prop
  | 0, _, _, _, _ => False
  | fu + 1, v1, v2, v3, v4 => (27 ≤ v1 → (k7_62 v1 v2 v3 v4)) ∧ (¬ 27 ≤ v1 → ((v1 ≤ 0 → (wp_X7_parsesCommand tL v4 tn v2 v1 (fun u5 : Bool × Int32 × XRow => (u5.1 = true → (∀ x6 : Int32, x6 = v1 + 1 → ((u5.2.1 < tn → (∀ x7 : Int32, x7 = v1 + 1 → (wp_X7_parse_L7 tL tn k7_34 k7_54 k7_62 fu x7 u5.2.1 x6 u5.2.2))) ∧ (¬ u5.2.1 < tn → (k7_54 v1 u5.2.1 x6 u5.2.2))))) ∧ (u5.1 = false → (k7_34 v1 u5.2.1 v3 u5.2.2))))) ∧ (¬ v1 ≤ 0 → (wp_X7_takes tL tn v2 59 (fun u8 : Bool × Int32 => (u8.1 = true → (wp_X7_parsesCommand tL v4 tn u8.2 v1 (fun u9 : Bool × Int32 × XRow => (u9.1 = true → (∀ x10 : Int32, x10 = v1 + 1 → ((u9.2.1 < tn → (∀ x11 : Int32, x11 = v1 + 1 → (wp_X7_parse_L7 tL tn k7_34 k7_54 k7_62 fu x11 u9.2.1 x10 u9.2.2))) ∧ (¬ u9.2.1 < tn → (k7_54 v1 u9.2.1 x10 u9.2.2))))) ∧ (u9.1 = false → (k7_34 v1 u9.2.1 v3 u9.2.2))))) ∧ (u8.1 = false → (k7_34 v1 u8.2 v3 v4)))))))
def wp_X7_parse (tL : XRow) (tC : XRow) (tn : Int32) (tc : Int32) (post : (Bool × Int32 × Int32 × XRow) → Prop) : Prop := ∃ fl, wp_X7_parse_L7 tL tn (fun (v12 : Int32) (v13 : Int32) (v14 : Int32) (v15 : XRow) => post (false, v13, v14, v15)) (fun (v16 : Int32) (v17 : Int32) (v18 : Int32) (v19 : XRow) => post (true, v17, v18, v19)) (fun (v20 : Int32) (v21 : Int32) (v22 : Int32) (v23 : XRow) => post (false, v21, v22, v23)) fl 0 0 tc tC
theorem in_X7_parse_X7 : ∀ w ∈ u_ws RX7 TX7 5, w ∈ wsX7_parse := by decide +kernel
set_option maxRecDepth 100000 in
set_option maxHeartbeats 4000000 in
theorem c_X7_parse (l : Launch) (D : va_G) (cy : Nat → ClassId) (sd : xSd) (a0 a1 a2 a3 : Nat) (tL : XRow) (tC : XRow) (tn : Int32) (tp : Int32) (tc : Int32) {post : (Bool × Int32 × Int32 × XRow) → Prop} (hw : wp_X7_parse tL tC tn tc post) : Ctr l D (xTys cy) sd yX7_parse wsX7_parse ({ frames := 7, cells := 0, slots := 0, locals := 167 } : Room) [.ref a0] (fun u : Bool × Int32 × Int32 × XRow => some (.int (bI u.1))) [(a0, .inr (8, [.ref a1, .ref a2, .int tn, .int tp, .int tc])), (a1, .inl (cy 1, 80, .inl tL)), (a2, .inr (7, [.int 5, .ref a3])), (a3, .inl (cy 0, 135, .inl tC))] (fun u => [(a0, .inr (8, [.ref a1, .ref a2, .int tn, .int u.2.1, .int u.2.2.1])), (a1, .inl (cy 1, 80, .inl tL)), (a2, .inr (7, [.int 5, .ref a3])), (a3, .inl (cy 0, 135, .inl u.2.2.2))]) post := by
  refine Ctr.of (cc := cX7_parse) (maxL := 2) (ret := (some .boolean)) (lv0 := [(0, .ref a0)]) (by decide) rfl (Nat.le_of_ble_eq_true rfl) rfl ?_
  intro X El hR Er Enm ED E En K
  have K : Cx X cX7_parse RX7 wsX7_parse (xTys cy) sd := K
  have E : X.2.2.2.2.2.2.2.2.2.2.1 = xMQ X (fun u : Bool × Int32 × Int32 × XRow => some (.int (bI u.1))) post (fun u => [(a0, .inr (8, [.ref a1, .ref a2, .int tn, .int u.2.1, .int u.2.2.1])), (a1, .inl (cy 1, 80, .inl tL)), (a2, .inr (7, [.int 5, .ref a3])), (a3, .inl (cy 0, 135, .inl u.2.2.2))]) 0 0 := E
  unfold wp_X7_parse at hw
  refine g_aload_n K 0 dX7_parse_0 rfl ?_
  refine g_iconst (v := 0) K dX7_parse_1 rfl ?_
  refine g_put (ty := .int) (ws' := [(a0, .inr (8, [.ref a1, .ref a2, .int tn, .int 0, .int tc])), (a1, .inl (cy 1, 80, .inl tL)), (a2, .inr (7, [.int 5, .ref a3])), (a3, .inl (cy 0, 135, .inl tC))]) K (C := RX7) (T := TX7) (N := 5) 0 3 in_X7_parse_X7 tyX7 tyX7_ok nmX7 (by decide +kernel) rfl rfl (by decide) rfl (by decide +kernel) rfl rfl (Nat.le_of_ble_eq_true rfl) rfl dX7_parse_2 ?_
  refine g_iconst (v := 0) K dX7_parse_5 rfl ?_
  refine g_istore_n (lv' := [(1, .int 0), (0, .ref a0)]) K dX7_parse_6 rfl (by rw [En]; decide) rfl ?_
  obtain ⟨fl, hw⟩ := hw
  have key : ∀ (k7_34 : Int32 → Int32 → Int32 → XRow → Prop) (k7_54 : Int32 → Int32 → Int32 → XRow → Prop) (k7_62 : Int32 → Int32 → Int32 → XRow → Prop), (∀ (v1 : Int32) (v2 : Int32) (v3 : Int32) (v4 : XRow), k7_34 v1 v2 v3 v4 → Gx X 0 0 [(a0, .inr (8, [.ref a1, .ref a2, .int tn, .int v2, .int v3])), (a1, .inl (cy 1, 80, .inl tL)), (a2, .inr (7, [.int 5, .ref a3])), (a3, .inl (cy 0, 135, .inl v4))] [(1, .int v1), (0, .ref a0)] 34 []) → (∀ (v1 : Int32) (v2 : Int32) (v3 : Int32) (v4 : XRow), k7_54 v1 v2 v3 v4 → Gx X 0 0 [(a0, .inr (8, [.ref a1, .ref a2, .int tn, .int v2, .int v3])), (a1, .inl (cy 1, 80, .inl tL)), (a2, .inr (7, [.int 5, .ref a3])), (a3, .inl (cy 0, 135, .inl v4))] [(1, .int v1), (0, .ref a0)] 54 []) → (∀ (v1 : Int32) (v2 : Int32) (v3 : Int32) (v4 : XRow), k7_62 v1 v2 v3 v4 → Gx X 0 0 [(a0, .inr (8, [.ref a1, .ref a2, .int tn, .int v2, .int v3])), (a1, .inl (cy 1, 80, .inl tL)), (a2, .inr (7, [.int 5, .ref a3])), (a3, .inl (cy 0, 135, .inl v4))] [(1, .int v1), (0, .ref a0)] 62 []) → ∀ (n : Nat) (v1 : Int32) (v2 : Int32) (v3 : Int32) (v4 : XRow), wp_X7_parse_L7 tL tn k7_34 k7_54 k7_62 n v1 v2 v3 v4 → Gx X 0 0 [(a0, .inr (8, [.ref a1, .ref a2, .int tn, .int v2, .int v3])), (a1, .inl (cy 1, 80, .inl tL)), (a2, .inr (7, [.int 5, .ref a3])), (a3, .inl (cy 0, 135, .inl v4))] [(1, .int v1), (0, .ref a0)] 7 [] := by
    intro k7_34 k7_54 k7_62 hx34 hx54 hx62 n
    induction n with
    | zero => intro v1 v2 v3 v4 hw; exact hw.elim
    | succ n ih =>
      intro v1 v2 v3 v4 hw
      refine g_iload_n K 0 dX7_parse_7 rfl ?_
      refine g_bipush (v := 27) K dX7_parse_8 rfl ?_
      refine g_icmp_ge (tgt := 62) K dX7_parse_10 (by decide) (fun hc => ?_) (fun hc => ?_)
      · replace hw := hw.1 hc
        exact hx62 _ _ _ _ hw
      · replace hw := hw.2 hc
        refine g_iload_n K 0 dX7_parse_13 rfl ?_
        refine g_if_le (tgt := 26) K dX7_parse_14 (by decide) (fun hc => ?_) (fun hc => ?_)
        · replace hw := hw.1 hc
          refine g_aload_n K 1 dX7_parse_26 rfl ?_
          refine g_iload_n K 0 dX7_parse_27 rfl ?_
          refine g_callV (st' := fun u5 => [.int (bI u5.1)]) (ws' := fun u5 => [(a0, .inr (8, [.ref a1, .ref a2, .int tn, .int u5.2.1, .int v3])), (a1, .inl (cy 1, 80, .inl tL)), (a2, .inr (7, [.int 5, .ref a3])), (a3, .inl (cy 0, 135, .inl u5.2.2))]) K hR [.int v1] [] 0 rfl rfl (c_X7_parsesCommand X.2.1 (gxD X) cy sd a0 a1 a2 a3 tL v4 tn v2 v3 v1 hw) gX7_parse_X7_parsesCommand rfl yok_X7_parsesCommand rfl rfl (by decide) rfl (Nat.le_of_ble_eq_true rfl) dX7_parse_28 [0, 1, 2, 3] rfl (by decide) (fun _ => rfl) (fun _ => rfl) (fun _ => rfl) ⟨rfl, rfl⟩ (fun u5 hw => ?_)
          refine g_ifb_ne (tgt := 36) K dX7_parse_31 (by decide) (fun hc => ?_) (fun hc => ?_)
          · replace hw := hw.1 hc
            refine g_aload_n K 1 dX7_parse_36 rfl ?_
            refine g_iload_n K 0 dX7_parse_37 rfl ?_
            refine g_iconst (v := 1) K dX7_parse_38 rfl ?_
            refine g_iadd K dX7_parse_39 ?_
            refine g_topi (fun x6 ex6 => ?_)
            replace hw := hw x6 ex6
            refine g_put (ty := .int) (ws' := [(a0, .inr (8, [.ref a1, .ref a2, .int tn, .int u5.2.1, .int x6])), (a1, .inl (cy 1, 80, .inl tL)), (a2, .inr (7, [.int 5, .ref a3])), (a3, .inl (cy 0, 135, .inl u5.2.2))]) K (C := RX7) (T := TX7) (N := 5) 0 4 in_X7_parse_X7 tyX7 tyX7_ok nmX7 (by decide +kernel) rfl rfl (by decide) rfl (by decide +kernel) rfl rfl (Nat.le_of_ble_eq_true rfl) rfl dX7_parse_40 ?_
            refine g_aload_n K 1 dX7_parse_43 rfl ?_
            refine g_get K (C := RX7) (T := TX7) (N := 5) 0 3 in_X7_parse_X7 (by decide +kernel) rfl rfl (by decide) rfl dX7_parse_44 ?_
            refine g_aload_n K 1 dX7_parse_47 rfl ?_
            refine g_get K (C := RX7) (T := TX7) (N := 5) 0 2 in_X7_parse_X7 (by decide +kernel) rfl rfl (by decide) rfl dX7_parse_48 ?_
            refine g_icmp_lt (tgt := 56) K dX7_parse_51 (by decide) (fun hc => ?_) (fun hc => ?_)
            · replace hw := hw.1 hc
              obtain ⟨x7, ex7⟩ : ∃ z : Int32, z = v1 + 1 := ⟨_, rfl⟩
              replace hw := hw x7 ex7
              refine g_iinc (v := x7) (lv' := [(1, .int x7), (0, .ref a0)]) K 0 dX7_parse_56 rfl (by rw [ex7]; rfl) (by rw [En]; decide) rfl ?_
              refine g_goto (tgt := 7) K dX7_parse_59 (by decide) ?_
              exact ih _ _ _ _ hw
            · replace hw := hw.2 hc
              exact hx54 _ _ _ _ hw
          · replace hw := hw.2 hc
            exact hx34 _ _ _ _ hw
        · replace hw := hw.2 hc
          refine g_aload_n K 1 dX7_parse_17 rfl ?_
          refine g_bipush (v := 59) K dX7_parse_18 rfl ?_
          refine g_callV (st' := fun u8 => [.int (bI u8.1)]) (ws' := fun u8 => [(a0, .inr (8, [.ref a1, .ref a2, .int tn, .int u8.2, .int v3])), (a1, .inl (cy 1, 80, .inl tL)), (a2, .inr (7, [.int 5, .ref a3])), (a3, .inl (cy 0, 135, .inl v4))]) K hR [.int 59] [] 0 rfl rfl (c_X7_takes X.2.1 (gxD X) cy sd a0 a1 a2 a3 tL v4 tn v2 v3 59 hw) gX7_parse_X7_takes rfl yok_X7_takes rfl rfl (by decide) rfl (Nat.le_of_ble_eq_true rfl) dX7_parse_20 [0, 1, 2, 3] rfl (by decide) (fun _ => rfl) (fun _ => rfl) (fun _ => rfl) ⟨rfl, rfl⟩ (fun u8 hw => ?_)
          refine g_ifb_eq (tgt := 34) K dX7_parse_23 (by decide) (fun hc => ?_) (fun hc => ?_)
          · replace hw := hw.2 hc
            exact hx34 _ _ _ _ hw
          · replace hw := hw.1 hc
            refine g_aload_n K 1 dX7_parse_26 rfl ?_
            refine g_iload_n K 0 dX7_parse_27 rfl ?_
            refine g_callV (st' := fun u9 => [.int (bI u9.1)]) (ws' := fun u9 => [(a0, .inr (8, [.ref a1, .ref a2, .int tn, .int u9.2.1, .int v3])), (a1, .inl (cy 1, 80, .inl tL)), (a2, .inr (7, [.int 5, .ref a3])), (a3, .inl (cy 0, 135, .inl u9.2.2))]) K hR [.int v1] [] 0 rfl rfl (c_X7_parsesCommand X.2.1 (gxD X) cy sd a0 a1 a2 a3 tL v4 tn u8.2 v3 v1 hw) gX7_parse_X7_parsesCommand rfl yok_X7_parsesCommand rfl rfl (by decide) rfl (Nat.le_of_ble_eq_true rfl) dX7_parse_28 [0, 1, 2, 3] rfl (by decide) (fun _ => rfl) (fun _ => rfl) (fun _ => rfl) ⟨rfl, rfl⟩ (fun u9 hw => ?_)
            refine g_ifb_ne (tgt := 36) K dX7_parse_31 (by decide) (fun hc => ?_) (fun hc => ?_)
            · replace hw := hw.1 hc
              refine g_aload_n K 1 dX7_parse_36 rfl ?_
              refine g_iload_n K 0 dX7_parse_37 rfl ?_
              refine g_iconst (v := 1) K dX7_parse_38 rfl ?_
              refine g_iadd K dX7_parse_39 ?_
              refine g_topi (fun x10 ex10 => ?_)
              replace hw := hw x10 ex10
              refine g_put (ty := .int) (ws' := [(a0, .inr (8, [.ref a1, .ref a2, .int tn, .int u9.2.1, .int x10])), (a1, .inl (cy 1, 80, .inl tL)), (a2, .inr (7, [.int 5, .ref a3])), (a3, .inl (cy 0, 135, .inl u9.2.2))]) K (C := RX7) (T := TX7) (N := 5) 0 4 in_X7_parse_X7 tyX7 tyX7_ok nmX7 (by decide +kernel) rfl rfl (by decide) rfl (by decide +kernel) rfl rfl (Nat.le_of_ble_eq_true rfl) rfl dX7_parse_40 ?_
              refine g_aload_n K 1 dX7_parse_43 rfl ?_
              refine g_get K (C := RX7) (T := TX7) (N := 5) 0 3 in_X7_parse_X7 (by decide +kernel) rfl rfl (by decide) rfl dX7_parse_44 ?_
              refine g_aload_n K 1 dX7_parse_47 rfl ?_
              refine g_get K (C := RX7) (T := TX7) (N := 5) 0 2 in_X7_parse_X7 (by decide +kernel) rfl rfl (by decide) rfl dX7_parse_48 ?_
              refine g_icmp_lt (tgt := 56) K dX7_parse_51 (by decide) (fun hc => ?_) (fun hc => ?_)
              · replace hw := hw.1 hc
                obtain ⟨x11, ex11⟩ : ∃ z : Int32, z = v1 + 1 := ⟨_, rfl⟩
                replace hw := hw x11 ex11
                refine g_iinc (v := x11) (lv' := [(1, .int x11), (0, .ref a0)]) K 0 dX7_parse_56 rfl (by rw [ex11]; rfl) (by rw [En]; decide) rfl ?_
                refine g_goto (tgt := 7) K dX7_parse_59 (by decide) ?_
                exact ih _ _ _ _ hw
              · replace hw := hw.2 hc
                exact hx54 _ _ _ _ hw
            · replace hw := hw.2 hc
              exact hx34 _ _ _ _ hw
  refine key _ _ _ (fun v12 v13 v14 v15 hw => ?_) (fun v16 v17 v18 v19 hw => ?_) (fun v20 v21 v22 v23 hw => ?_) fl _ _ _ _ hw
  · refine g_iconst (v := 0) K dX7_parse_34 rfl ?_
    exact g_zret K E Er (false, v13, v14, v15) hw rfl rfl rfl (Nat.le_refl _) (Nat.le_refl _) dX7_parse_35
  · refine g_iconst (v := 1) K dX7_parse_54 rfl ?_
    exact g_zret K E Er (true, v17, v18, v19) hw rfl rfl rfl (Nat.le_refl _) (Nat.le_refl _) dX7_parse_55
  · refine g_iconst (v := 0) K dX7_parse_62 rfl ?_
    exact g_zret K E Er (false, v21, v22, v23) hw rfl rfl rfl (Nat.le_refl _) (Nat.le_refl _) dX7_parse_63
