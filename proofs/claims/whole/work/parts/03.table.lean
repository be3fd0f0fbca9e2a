theorem yok_X6_get : yOk yX6_get 2 := by decide +kernel
theorem yok_X6_put : yOk yX6_put 3 := by decide +kernel
theorem yok_X6_add : yOk yX6_add 3 := by decide +kernel
theorem yok_X6_move : yOk yX6_move 4 := by decide +kernel
theorem yok_X6_sum : yOk yX6_sum 1 := by decide +kernel
theorem yok_X6_columnOfGreatest : yOk yX6_columnOfGreatest 1 := by decide +kernel
theorem yok_X6_swapRows : yOk yX6_swapRows 2 := by decide +kernel
theorem yok_X6_copyFrom : yOk yX6_copyFrom 1 := by decide +kernel
def wp_X6_get (w : Int32) (ln : Nat) (f : XRow) (p0 : Int32) (p1 : Int32) (post : Int32 → Prop) : Prop := ∀ x1 : Int32, x1 = (p0 * w) + p1 → ((x1 < 0 → (post 0)) ∧ (¬ x1 < 0 → (((Int32.ofNat ln) ≤ x1 → (post 0)) ∧ (¬ (Int32.ofNat ln) ≤ x1 → (vp_in x1 ln ∧ (post (f (x1).toNatClampNeg)))))))
theorem in_X6_get_X6 : ∀ w ∈ u_ws RX6 TX6 2, w ∈ wsX6_get := by decide +kernel
set_option maxRecDepth 100000 in
set_option maxHeartbeats 4000000 in
theorem c_X6_get (l : Launch) (D : va_G) (cy : Nat → ClassId) (sd : xSd) (a0 a1 : Nat) (w : Int32) (ln : Nat) (f : XRow) (p0 : Int32) (p1 : Int32) {post : Int32 → Prop} (hw : wp_X6_get w ln f p0 p1 post) : Ctr l D (xTys cy) sd yX6_get wsX6_get ({ frames := 0, cells := 0, slots := 0, locals := 0 } : Room) [.ref a0, .int p0, .int p1] (fun u : Int32 => some (.int u)) [(a0, .inr (7, [.int w, .ref a1])), (a1, .inl (cy 0, ln, .inl f))] (fun _ => [(a0, .inr (7, [.int w, .ref a1])), (a1, .inl (cy 0, ln, .inl f))]) post := by
  refine Ctr.of (cc := cX6_get) (maxL := 4) (ret := (some .int)) (lv0 := [(0, .ref a0), (1, .int p0), (2, .int p1)]) (by decide) rfl (Nat.le_of_ble_eq_true rfl) rfl ?_
  intro X El hR Er Enm ED E En K
  have K : Cx X cX6_get RX6 wsX6_get (xTys cy) sd := K
  have E : X.2.2.2.2.2.2.2.2.2.2.1 = xMQ X (fun u : Int32 => some (.int u)) post (fun _ => [(a0, .inr (7, [.int w, .ref a1])), (a1, .inl (cy 0, ln, .inl f))]) 0 0 := E
  unfold wp_X6_get at hw
  refine g_iload_n K 1 dX6_get_0 rfl ?_
  refine g_aload_n K 0 dX6_get_1 rfl ?_
  refine g_get K (C := RX6) (T := TX6) (N := 2) 0 0 in_X6_get_X6 (by decide +kernel) rfl rfl (by decide) rfl dX6_get_2 ?_
  refine g_imul K dX6_get_5 ?_
  refine g_iload_n K 2 dX6_get_6 rfl ?_
  refine g_iadd K dX6_get_7 ?_
  refine g_topi (fun x1 ex1 => ?_)
  replace hw := hw x1 ex1
  refine g_istore_n (lv' := [(3, .int x1), (0, .ref a0), (1, .int p0), (2, .int p1)]) K dX6_get_8 rfl (by rw [En]; decide) rfl ?_
  refine g_iload_n K 0 dX6_get_9 rfl ?_
  refine g_if_lt (tgt := 31) K dX6_get_10 (by decide) (fun hc => ?_) (fun hc => ?_)
  · replace hw := hw.1 hc
    refine g_iconst (v := 0) K dX6_get_31 rfl ?_
    exact g_zret K E Er 0 hw rfl rfl rfl (Nat.le_refl _) (Nat.le_refl _) dX6_get_32
  · replace hw := hw.2 hc
    refine g_iload_n K 0 dX6_get_13 rfl ?_
    refine g_aload_n K 1 dX6_get_14 rfl ?_
    refine g_get K (C := RX6) (T := TX6) (N := 2) 0 1 in_X6_get_X6 (by decide +kernel) rfl rfl (by decide) rfl dX6_get_15 ?_
    refine g_alen (v := Int32.ofNat ln) K 1 0 rfl rfl rfl dX6_get_18 ?_
    refine g_icmp_ge (tgt := 31) K dX6_get_19 (by decide) (fun hc => ?_) (fun hc => ?_)
    · replace hw := hw.1 hc
      refine g_iconst (v := 0) K dX6_get_31 rfl ?_
      exact g_zret K E Er 0 hw rfl rfl rfl (Nat.le_refl _) (Nat.le_refl _) dX6_get_32
    · replace hw := hw.2 hc
      refine g_aload_n K 1 dX6_get_22 rfl ?_
      refine g_get K (C := RX6) (T := TX6) (N := 2) 0 1 in_X6_get_X6 (by decide +kernel) rfl rfl (by decide) rfl dX6_get_23 ?_
      refine g_iload_n K 0 dX6_get_26 rfl ?_
      refine g_iald K 1 0 rfl rfl hw.1 dX6_get_27 ?_
      replace hw := hw.2
      refine g_goto (tgt := 32) K dX6_get_28 (by decide) ?_
      exact g_zret K E Er (f (x1).toNatClampNeg) hw rfl rfl rfl (Nat.le_refl _) (Nat.le_refl _) dX6_get_32

def wp_X6_put (w : Int32) (ln : Nat) (f : XRow) (p0 : Int32) (p1 : Int32) (p2 : Int32) (post : XRow → Prop) : Prop := ∀ x1 : Int32, x1 = (p0 * w) + p1 → ((x1 < 0 → (post f)) ∧ (¬ x1 < 0 → (((Int32.ofNat ln) ≤ x1 → (post f)) ∧ (¬ (Int32.ofNat ln) ≤ x1 → (vp_in x1 ln ∧ (post (upd f (x1).toNatClampNeg p2)))))))
theorem in_X6_put_X6 : ∀ w ∈ u_ws RX6 TX6 2, w ∈ wsX6_put := by decide +kernel
set_option maxRecDepth 100000 in
set_option maxHeartbeats 4000000 in
theorem c_X6_put (l : Launch) (D : va_G) (cy : Nat → ClassId) (sd : xSd) (a0 a1 : Nat) (w : Int32) (ln : Nat) (f : XRow) (p0 : Int32) (p1 : Int32) (p2 : Int32) {post : XRow → Prop} (hw : wp_X6_put w ln f p0 p1 p2 post) : Ctr l D (xTys cy) sd yX6_put wsX6_put ({ frames := 0, cells := 0, slots := 0, locals := 0 } : Room) [.ref a0, .int p0, .int p1, .int p2] (fun u : XRow => none) [(a0, .inr (7, [.int w, .ref a1])), (a1, .inl (cy 0, ln, .inl f))] (fun u => [(a0, .inr (7, [.int w, .ref a1])), (a1, .inl (cy 0, ln, .inl u))]) post := by
  refine Ctr.of (cc := cX6_put) (maxL := 5) (ret := none) (lv0 := [(0, .ref a0), (1, .int p0), (2, .int p1), (3, .int p2)]) (by decide) rfl (Nat.le_of_ble_eq_true rfl) rfl ?_
  intro X El hR Er Enm ED E En K
  have K : Cx X cX6_put RX6 wsX6_put (xTys cy) sd := K
  have E : X.2.2.2.2.2.2.2.2.2.2.1 = xMQ X (fun u : XRow => none) post (fun u => [(a0, .inr (7, [.int w, .ref a1])), (a1, .inl (cy 0, ln, .inl u))]) 0 0 := E
  unfold wp_X6_put at hw
  refine g_iload_n K 1 dX6_put_0 rfl ?_
  refine g_aload_n K 0 dX6_put_1 rfl ?_
  refine g_get K (C := RX6) (T := TX6) (N := 2) 0 0 in_X6_put_X6 (by decide +kernel) rfl rfl (by decide) rfl dX6_put_2 ?_
  refine g_imul K dX6_put_5 ?_
  refine g_iload_n K 2 dX6_put_6 rfl ?_
  refine g_iadd K dX6_put_7 ?_
  refine g_topi (fun x1 ex1 => ?_)
  replace hw := hw x1 ex1
  refine g_istore (lv' := [(4, .int x1), (0, .ref a0), (1, .int p0), (2, .int p1), (3, .int p2)]) K dX6_put_8 (by rw [En]; decide) rfl ?_
  refine g_iload K 0 dX6_put_10 rfl ?_
  refine g_if_lt (tgt := 33) K dX6_put_12 (by decide) (fun hc => ?_) (fun hc => ?_)
  · replace hw := hw.1 hc
    exact g_vret K E Er f hw rfl rfl (Nat.le_refl _) (Nat.le_refl _) dX6_put_33
  · replace hw := hw.2 hc
    refine g_iload K 0 dX6_put_15 rfl ?_
    refine g_aload_n K 1 dX6_put_17 rfl ?_
    refine g_get K (C := RX6) (T := TX6) (N := 2) 0 1 in_X6_put_X6 (by decide +kernel) rfl rfl (by decide) rfl dX6_put_18 ?_
    refine g_alen (v := Int32.ofNat ln) K 1 0 rfl rfl rfl dX6_put_21 ?_
    refine g_icmp_ge (tgt := 33) K dX6_put_22 (by decide) (fun hc => ?_) (fun hc => ?_)
    · replace hw := hw.1 hc
      exact g_vret K E Er f hw rfl rfl (Nat.le_refl _) (Nat.le_refl _) dX6_put_33
    · replace hw := hw.2 hc
      refine g_aload_n K 1 dX6_put_25 rfl ?_
      refine g_get K (C := RX6) (T := TX6) (N := 2) 0 1 in_X6_put_X6 (by decide +kernel) rfl rfl (by decide) rfl dX6_put_26 ?_
      refine g_iload K 0 dX6_put_29 rfl ?_
      refine g_iload_n K 4 dX6_put_31 rfl ?_
      refine g_iast (ws' := [(a0, .inr (7, [.int w, .ref a1])), (a1, .inl (cy 0, ln, .inl (upd f (x1).toNatClampNeg p2)))]) K 1 0 rfl rfl hw.1 rfl dX6_put_32 ?_
      replace hw := hw.2
      exact g_vret K E Er (upd f (x1).toNatClampNeg p2) hw rfl rfl (Nat.le_refl _) (Nat.le_refl _) dX6_put_33

def wp_X6_add (w : Int32) (ln : Nat) (f : XRow) (p0 : Int32) (p1 : Int32) (p2 : Int32) (post : XRow → Prop) : Prop := wp_X6_get w ln f p0 p1 (fun u1 : Int32 => wp_X6_put w ln f p0 p1 (u1 + p2) (fun u2 : XRow => post u2))
set_option maxRecDepth 100000 in
set_option maxHeartbeats 4000000 in
theorem c_X6_add (l : Launch) (D : va_G) (cy : Nat → ClassId) (sd : xSd) (a0 a1 : Nat) (w : Int32) (ln : Nat) (f : XRow) (p0 : Int32) (p1 : Int32) (p2 : Int32) {post : XRow → Prop} (hw : wp_X6_add w ln f p0 p1 p2 post) : Ctr l D (xTys cy) sd yX6_add wsX6_add ({ frames := 1, cells := 0, slots := 0, locals := 24 } : Room) [.ref a0, .int p0, .int p1, .int p2] (fun u : XRow => none) [(a0, .inr (7, [.int w, .ref a1])), (a1, .inl (cy 0, ln, .inl f))] (fun u => [(a0, .inr (7, [.int w, .ref a1])), (a1, .inl (cy 0, ln, .inl u))]) post := by
  refine Ctr.of (cc := cX6_add) (maxL := 4) (ret := none) (lv0 := [(0, .ref a0), (1, .int p0), (2, .int p1), (3, .int p2)]) (by decide) rfl (Nat.le_of_ble_eq_true rfl) rfl ?_
  intro X El hR Er Enm ED E En K
  have K : Cx X cX6_add RX6 wsX6_add (xTys cy) sd := K
  have E : X.2.2.2.2.2.2.2.2.2.2.1 = xMQ X (fun u : XRow => none) post (fun u => [(a0, .inr (7, [.int w, .ref a1])), (a1, .inl (cy 0, ln, .inl u))]) 0 0 := E
  unfold wp_X6_add at hw
  refine g_aload_n K 0 dX6_add_0 rfl ?_
  refine g_iload_n K 1 dX6_add_1 rfl ?_
  refine g_iload_n K 2 dX6_add_2 rfl ?_
  refine g_aload_n K 0 dX6_add_3 rfl ?_
  refine g_iload_n K 1 dX6_add_4 rfl ?_
  refine g_iload_n K 2 dX6_add_5 rfl ?_
  refine g_callVr (st' := fun u1 => [.int u1, .int p1, .int p0, .ref a0]) K hR [.int p0, .int p1] [.int p1, .int p0, .ref a0] 0 rfl rfl (c_X6_get X.2.1 (gxD X) cy sd a0 a1 w ln f p0 p1 hw) gX6_add_X6_get rfl yok_X6_get rfl rfl (by decide) rfl (Nat.le_of_ble_eq_true rfl) dX6_add_6 [0, 1] rfl (by decide) (fun _ => rfl) ⟨rfl, rfl⟩ (fun u1 hw => ?_)
  refine g_iload_n K 3 dX6_add_9 rfl ?_
  refine g_iadd K dX6_add_10 ?_
  refine g_callV (st' := fun u2 => []) (ws' := fun u2 => [(a0, .inr (7, [.int w, .ref a1])), (a1, .inl (cy 0, ln, .inl u2))]) K hR [.int p0, .int p1, .int (u1 + p2)] [] 0 rfl rfl (c_X6_put X.2.1 (gxD X) cy sd a0 a1 w ln f p0 p1 (u1 + p2) hw) gX6_add_X6_put rfl yok_X6_put rfl rfl (by decide) rfl (Nat.le_of_ble_eq_true rfl) dX6_add_11 [0, 1] rfl (by decide) (fun _ => rfl) (fun _ => rfl) (fun _ => rfl) ⟨rfl, rfl⟩ (fun u2 hw => ?_)
  exact g_vret K E Er u2 hw rfl rfl (Nat.le_refl _) (Nat.le_refl _) dX6_add_14

def wp_X6_move (w : Int32) (ln : Nat) (f : XRow) (p0 : Int32) (p1 : Int32) (p2 : Int32) (p3 : Int32) (post : XRow → Prop) : Prop := wp_X6_add w ln f p0 p2 (-p3) (fun u1 : XRow => wp_X6_add w ln u1 p1 p2 p3 (fun u2 : XRow => post u2))
set_option maxRecDepth 100000 in
set_option maxHeartbeats 4000000 in
theorem c_X6_move (l : Launch) (D : va_G) (cy : Nat → ClassId) (sd : xSd) (a0 a1 : Nat) (w : Int32) (ln : Nat) (f : XRow) (p0 : Int32) (p1 : Int32) (p2 : Int32) (p3 : Int32) {post : XRow → Prop} (hw : wp_X6_move w ln f p0 p1 p2 p3 post) : Ctr l D (xTys cy) sd yX6_move wsX6_move ({ frames := 2, cells := 0, slots := 0, locals := 47 } : Room) [.ref a0, .int p0, .int p1, .int p2, .int p3] (fun u : XRow => none) [(a0, .inr (7, [.int w, .ref a1])), (a1, .inl (cy 0, ln, .inl f))] (fun u => [(a0, .inr (7, [.int w, .ref a1])), (a1, .inl (cy 0, ln, .inl u))]) post := by
  refine Ctr.of (cc := cX6_move) (maxL := 5) (ret := none) (lv0 := [(0, .ref a0), (1, .int p0), (2, .int p1), (3, .int p2), (4, .int p3)]) (by decide) rfl (Nat.le_of_ble_eq_true rfl) rfl ?_
  intro X El hR Er Enm ED E En K
  have K : Cx X cX6_move RX6 wsX6_move (xTys cy) sd := K
  have E : X.2.2.2.2.2.2.2.2.2.2.1 = xMQ X (fun u : XRow => none) post (fun u => [(a0, .inr (7, [.int w, .ref a1])), (a1, .inl (cy 0, ln, .inl u))]) 0 0 := E
  unfold wp_X6_move at hw
  refine g_aload_n K 0 dX6_move_0 rfl ?_
  refine g_iload_n K 1 dX6_move_1 rfl ?_
  refine g_iload_n K 3 dX6_move_2 rfl ?_
  refine g_iload K 4 dX6_move_3 rfl ?_
  refine g_ineg K dX6_move_5 ?_
  refine g_callV (st' := fun u1 => []) (ws' := fun u1 => [(a0, .inr (7, [.int w, .ref a1])), (a1, .inl (cy 0, ln, .inl u1))]) K hR [.int p0, .int p2, .int (-p3)] [] 0 rfl rfl (c_X6_add X.2.1 (gxD X) cy sd a0 a1 w ln f p0 p2 (-p3) hw) gX6_move_X6_add rfl yok_X6_add rfl rfl (by decide) rfl (Nat.le_of_ble_eq_true rfl) dX6_move_6 [0, 1] rfl (by decide) (fun _ => rfl) (fun _ => rfl) (fun _ => rfl) ⟨rfl, rfl⟩ (fun u1 hw => ?_)
  refine g_aload_n K 0 dX6_move_9 rfl ?_
  refine g_iload_n K 2 dX6_move_10 rfl ?_
  refine g_iload_n K 3 dX6_move_11 rfl ?_
  refine g_iload K 4 dX6_move_12 rfl ?_
  refine g_callV (st' := fun u2 => []) (ws' := fun u2 => [(a0, .inr (7, [.int w, .ref a1])), (a1, .inl (cy 0, ln, .inl u2))]) K hR [.int p1, .int p2, .int p3] [] 0 rfl rfl (c_X6_add X.2.1 (gxD X) cy sd a0 a1 w ln u1 p1 p2 p3 hw) gX6_move_X6_add rfl yok_X6_add rfl rfl (by decide) rfl (Nat.le_of_ble_eq_true rfl) dX6_move_14 [0, 1] rfl (by decide) (fun _ => rfl) (fun _ => rfl) (fun _ => rfl) ⟨rfl, rfl⟩ (fun u2 hw => ?_)
  exact g_vret K E Er u2 hw rfl rfl (Nat.le_refl _) (Nat.le_refl _) dX6_move_17

def wp_X6_sum_L4 (w : Int32) (ln : Nat) (f : XRow) (p0 : Int32) (k4_27 : Int32 → Int32 → Prop) : Nat → Int32 → Int32 → Prop
  | 0, _, _ => False
  | fu + 1, v1, v2 => (w ≤ v1 → (k4_27 v1 v2)) ∧ (¬ w ≤ v1 → (wp_X6_get w ln f p0 v1 (fun u3 : Int32 => ∀ x4 : Int32, x4 = v2 + u3 → (∀ x5 : Int32, x5 = v1 + 1 → (wp_X6_sum_L4 w ln f p0 k4_27 fu x5 x4)))))
def wp_X6_sum (w : Int32) (ln : Nat) (f : XRow) (p0 : Int32) (post : Int32 → Prop) : Prop := ∃ fl, wp_X6_sum_L4 w ln f p0 (fun (v6 : Int32) (v7 : Int32) => post v7) fl 0 0
theorem in_X6_sum_X6 : ∀ w ∈ u_ws RX6 TX6 2, w ∈ wsX6_sum := by decide +kernel
set_option maxRecDepth 100000 in
set_option maxHeartbeats 4000000 in
theorem c_X6_sum (l : Launch) (D : va_G) (cy : Nat → ClassId) (sd : xSd) (a0 a1 : Nat) (w : Int32) (ln : Nat) (f : XRow) (p0 : Int32) {post : Int32 → Prop} (hw : wp_X6_sum w ln f p0 post) : Ctr l D (xTys cy) sd yX6_sum wsX6_sum ({ frames := 1, cells := 0, slots := 0, locals := 23 } : Room) [.ref a0, .int p0] (fun u : Int32 => some (.int u)) [(a0, .inr (7, [.int w, .ref a1])), (a1, .inl (cy 0, ln, .inl f))] (fun _ => [(a0, .inr (7, [.int w, .ref a1])), (a1, .inl (cy 0, ln, .inl f))]) post := by
  refine Ctr.of (cc := cX6_sum) (maxL := 4) (ret := (some .int)) (lv0 := [(0, .ref a0), (1, .int p0)]) (by decide) rfl (Nat.le_of_ble_eq_true rfl) rfl ?_
  intro X El hR Er Enm ED E En K
  have K : Cx X cX6_sum RX6 wsX6_sum (xTys cy) sd := K
  have E : X.2.2.2.2.2.2.2.2.2.2.1 = xMQ X (fun u : Int32 => some (.int u)) post (fun _ => [(a0, .inr (7, [.int w, .ref a1])), (a1, .inl (cy 0, ln, .inl f))]) 0 0 := E
  unfold wp_X6_sum at hw
  refine g_iconst (v := 0) K dX6_sum_0 rfl ?_
  refine g_istore_n (lv' := [(2, .int 0), (0, .ref a0), (1, .int p0)]) K dX6_sum_1 rfl (by rw [En]; decide) rfl ?_
  refine g_iconst (v := 0) K dX6_sum_2 rfl ?_
  refine g_istore_n (lv' := [(3, .int 0), (2, .int 0), (0, .ref a0), (1, .int p0)]) K dX6_sum_3 rfl (by rw [En]; decide) rfl ?_
  obtain ⟨fl, hw⟩ := hw
  have key : ∀ (k4_27 : Int32 → Int32 → Prop), (∀ (v1 : Int32) (v2 : Int32), k4_27 v1 v2 → Gx X 0 0 [(a0, .inr (7, [.int w, .ref a1])), (a1, .inl (cy 0, ln, .inl f))] [(3, .int v1), (2, .int v2), (0, .ref a0), (1, .int p0)] 27 []) → ∀ (n : Nat) (v1 : Int32) (v2 : Int32), wp_X6_sum_L4 w ln f p0 k4_27 n v1 v2 → Gx X 0 0 [(a0, .inr (7, [.int w, .ref a1])), (a1, .inl (cy 0, ln, .inl f))] [(3, .int v1), (2, .int v2), (0, .ref a0), (1, .int p0)] 4 [] := by
    intro k4_27 hx27 n
    induction n with
    | zero => intro v1 v2 hw; exact hw.elim
    | succ n ih =>
      intro v1 v2 hw
      refine g_iload_n K 0 dX6_sum_4 rfl ?_
      refine g_aload_n K 2 dX6_sum_5 rfl ?_
      refine g_get K (C := RX6) (T := TX6) (N := 2) 0 0 in_X6_sum_X6 (by decide +kernel) rfl rfl (by decide) rfl dX6_sum_6 ?_
      refine g_icmp_ge (tgt := 27) K dX6_sum_9 (by decide) (fun hc => ?_) (fun hc => ?_)
      · replace hw := hw.1 hc
        exact hx27 _ _ hw
      · replace hw := hw.2 hc
        refine g_iload_n K 1 dX6_sum_12 rfl ?_
        refine g_aload_n K 2 dX6_sum_13 rfl ?_
        refine g_iload_n K 3 dX6_sum_14 rfl ?_
        refine g_iload_n K 0 dX6_sum_15 rfl ?_
        refine g_callVr (st' := fun u3 => [.int u3, .int v2]) K hR [.int p0, .int v1] [.int v2] 0 rfl rfl (c_X6_get X.2.1 (gxD X) cy sd a0 a1 w ln f p0 v1 hw) gX6_sum_X6_get rfl yok_X6_get rfl rfl (by decide) rfl (Nat.le_of_ble_eq_true rfl) dX6_sum_16 [0, 1] rfl (by decide) (fun _ => rfl) ⟨rfl, rfl⟩ (fun u3 hw => ?_)
        refine g_iadd K dX6_sum_19 ?_
        refine g_topi (fun x4 ex4 => ?_)
        replace hw := hw x4 ex4
        refine g_istore_n (lv' := [(2, .int x4), (3, .int v1), (0, .ref a0), (1, .int p0)]) K dX6_sum_20 rfl (by rw [En]; decide) rfl ?_
        obtain ⟨x5, ex5⟩ : ∃ z : Int32, z = v1 + 1 := ⟨_, rfl⟩
        replace hw := hw x5 ex5
        refine g_iinc (v := x5) (lv' := [(3, .int x5), (2, .int x4), (0, .ref a0), (1, .int p0)]) K 1 dX6_sum_21 rfl (by rw [ex5]; rfl) (by rw [En]; decide) rfl ?_
        refine g_goto (tgt := 4) K dX6_sum_24 (by decide) ?_
        exact ih _ _ hw
  refine key _ (fun v6 v7 hw => ?_) fl _ _ hw
  refine g_iload_n K 1 dX6_sum_27 rfl ?_
  exact g_zret K E Er v7 hw rfl rfl rfl (Nat.le_refl _) (Nat.le_refl _) dX6_sum_28

def wp_X6_columnOfGreatest_L4 (w : Int32) (ln : Nat) (f : XRow) (p0 : Int32) (k4_35 : Int32 → Int32 → Prop) : Nat → Int32 → Int32 → Prop
  | 0, _, _ => False
  | fu + 1, v1, v2 => (w ≤ v1 → (k4_35 v1 v2)) ∧ (¬ w ≤ v1 → (wp_X6_get w ln f p0 v1 (fun u3 : Int32 => wp_X6_get w ln f p0 v2 (fun u4 : Int32 => (u3 ≤ u4 → (∀ x5 : Int32, x5 = v1 + 1 → (wp_X6_columnOfGreatest_L4 w ln f p0 k4_35 fu x5 v2))) ∧ (¬ u3 ≤ u4 → (∀ x6 : Int32, x6 = v1 + 1 → (wp_X6_columnOfGreatest_L4 w ln f p0 k4_35 fu x6 v1)))))))
def wp_X6_columnOfGreatest (w : Int32) (ln : Nat) (f : XRow) (p0 : Int32) (post : Int32 → Prop) : Prop := ∃ fl, wp_X6_columnOfGreatest_L4 w ln f p0 (fun (v7 : Int32) (v8 : Int32) => post v8) fl 1 0
theorem in_X6_columnOfGreatest_X6 : ∀ w ∈ u_ws RX6 TX6 2, w ∈ wsX6_columnOfGreatest := by decide +kernel
set_option maxRecDepth 100000 in
set_option maxHeartbeats 4000000 in
theorem c_X6_columnOfGreatest (l : Launch) (D : va_G) (cy : Nat → ClassId) (sd : xSd) (a0 a1 : Nat) (w : Int32) (ln : Nat) (f : XRow) (p0 : Int32) {post : Int32 → Prop} (hw : wp_X6_columnOfGreatest w ln f p0 post) : Ctr l D (xTys cy) sd yX6_columnOfGreatest wsX6_columnOfGreatest ({ frames := 1, cells := 0, slots := 0, locals := 23 } : Room) [.ref a0, .int p0] (fun u : Int32 => some (.int u)) [(a0, .inr (7, [.int w, .ref a1])), (a1, .inl (cy 0, ln, .inl f))] (fun _ => [(a0, .inr (7, [.int w, .ref a1])), (a1, .inl (cy 0, ln, .inl f))]) post := by
  refine Ctr.of (cc := cX6_columnOfGreatest) (maxL := 4) (ret := (some .int)) (lv0 := [(0, .ref a0), (1, .int p0)]) (by decide) rfl (Nat.le_of_ble_eq_true rfl) rfl ?_
  intro X El hR Er Enm ED E En K
  have K : Cx X cX6_columnOfGreatest RX6 wsX6_columnOfGreatest (xTys cy) sd := K
  have E : X.2.2.2.2.2.2.2.2.2.2.1 = xMQ X (fun u : Int32 => some (.int u)) post (fun _ => [(a0, .inr (7, [.int w, .ref a1])), (a1, .inl (cy 0, ln, .inl f))]) 0 0 := E
  unfold wp_X6_columnOfGreatest at hw
  refine g_iconst (v := 0) K dX6_columnOfGreatest_0 rfl ?_
  refine g_istore_n (lv' := [(2, .int 0), (0, .ref a0), (1, .int p0)]) K dX6_columnOfGreatest_1 rfl (by rw [En]; decide) rfl ?_
  refine g_iconst (v := 1) K dX6_columnOfGreatest_2 rfl ?_
  refine g_istore_n (lv' := [(3, .int 1), (2, .int 0), (0, .ref a0), (1, .int p0)]) K dX6_columnOfGreatest_3 rfl (by rw [En]; decide) rfl ?_
  obtain ⟨fl, hw⟩ := hw
  have key : ∀ (k4_35 : Int32 → Int32 → Prop), (∀ (v1 : Int32) (v2 : Int32), k4_35 v1 v2 → Gx X 0 0 [(a0, .inr (7, [.int w, .ref a1])), (a1, .inl (cy 0, ln, .inl f))] [(3, .int v1), (2, .int v2), (0, .ref a0), (1, .int p0)] 35 []) → ∀ (n : Nat) (v1 : Int32) (v2 : Int32), wp_X6_columnOfGreatest_L4 w ln f p0 k4_35 n v1 v2 → Gx X 0 0 [(a0, .inr (7, [.int w, .ref a1])), (a1, .inl (cy 0, ln, .inl f))] [(3, .int v1), (2, .int v2), (0, .ref a0), (1, .int p0)] 4 [] := by
    intro k4_35 hx35 n
    induction n with
    | zero => intro v1 v2 hw; exact hw.elim
    | succ n ih =>
      intro v1 v2 hw
      refine g_iload_n K 0 dX6_columnOfGreatest_4 rfl ?_
      refine g_aload_n K 2 dX6_columnOfGreatest_5 rfl ?_
      refine g_get K (C := RX6) (T := TX6) (N := 2) 0 0 in_X6_columnOfGreatest_X6 (by decide +kernel) rfl rfl (by decide) rfl dX6_columnOfGreatest_6 ?_
      refine g_icmp_ge (tgt := 35) K dX6_columnOfGreatest_9 (by decide) (fun hc => ?_) (fun hc => ?_)
      · replace hw := hw.1 hc
        exact hx35 _ _ hw
      · replace hw := hw.2 hc
        refine g_aload_n K 2 dX6_columnOfGreatest_12 rfl ?_
        refine g_iload_n K 3 dX6_columnOfGreatest_13 rfl ?_
        refine g_iload_n K 0 dX6_columnOfGreatest_14 rfl ?_
        refine g_callVr (st' := fun u3 => [.int u3]) K hR [.int p0, .int v1] [] 0 rfl rfl (c_X6_get X.2.1 (gxD X) cy sd a0 a1 w ln f p0 v1 hw) gX6_columnOfGreatest_X6_get rfl yok_X6_get rfl rfl (by decide) rfl (Nat.le_of_ble_eq_true rfl) dX6_columnOfGreatest_15 [0, 1] rfl (by decide) (fun _ => rfl) ⟨rfl, rfl⟩ (fun u3 hw => ?_)
        refine g_aload_n K 2 dX6_columnOfGreatest_18 rfl ?_
        refine g_iload_n K 3 dX6_columnOfGreatest_19 rfl ?_
        refine g_iload_n K 1 dX6_columnOfGreatest_20 rfl ?_
        refine g_callVr (st' := fun u4 => [.int u4, .int u3]) K hR [.int p0, .int v2] [.int u3] 0 rfl rfl (c_X6_get X.2.1 (gxD X) cy sd a0 a1 w ln f p0 v2 hw) gX6_columnOfGreatest_X6_get rfl yok_X6_get rfl rfl (by decide) rfl (Nat.le_of_ble_eq_true rfl) dX6_columnOfGreatest_21 [0, 1] rfl (by decide) (fun _ => rfl) ⟨rfl, rfl⟩ (fun u4 hw => ?_)
        refine g_icmp_le (tgt := 29) K dX6_columnOfGreatest_24 (by decide) (fun hc => ?_) (fun hc => ?_)
        · replace hw := hw.1 hc
          obtain ⟨x5, ex5⟩ : ∃ z : Int32, z = v1 + 1 := ⟨_, rfl⟩
          replace hw := hw x5 ex5
          refine g_iinc (v := x5) (lv' := [(3, .int x5), (2, .int v2), (0, .ref a0), (1, .int p0)]) K 0 dX6_columnOfGreatest_29 rfl (by rw [ex5]; rfl) (by rw [En]; decide) rfl ?_
          refine g_goto (tgt := 4) K dX6_columnOfGreatest_32 (by decide) ?_
          exact ih _ _ hw
        · replace hw := hw.2 hc
          refine g_iload_n K 0 dX6_columnOfGreatest_27 rfl ?_
          refine g_istore_n (lv' := [(2, .int v1), (3, .int v1), (0, .ref a0), (1, .int p0)]) K dX6_columnOfGreatest_28 rfl (by rw [En]; decide) rfl ?_
          obtain ⟨x6, ex6⟩ : ∃ z : Int32, z = v1 + 1 := ⟨_, rfl⟩
          replace hw := hw x6 ex6
          refine g_iinc (v := x6) (lv' := [(3, .int x6), (2, .int v1), (0, .ref a0), (1, .int p0)]) K 1 dX6_columnOfGreatest_29 rfl (by rw [ex6]; rfl) (by rw [En]; decide) rfl ?_
          refine g_goto (tgt := 4) K dX6_columnOfGreatest_32 (by decide) ?_
          exact ih _ _ hw
  refine key _ (fun v7 v8 hw => ?_) fl _ _ hw
  refine g_iload_n K 1 dX6_columnOfGreatest_35 rfl ?_
  exact g_zret K E Er v8 hw rfl rfl rfl (Nat.le_refl _) (Nat.le_refl _) dX6_columnOfGreatest_36

def wp_X6_swapRows_L2 (w : Int32) (ln : Nat) (p0 : Int32) (p1 : Int32) (k2_44 : Int32 → XRow → Prop) : Nat → Int32 → XRow → Prop
  | 0, _, _ => False
  | fu + 1, v1, v2 => (w ≤ v1 → (k2_44 v1 v2)) ∧ (¬ w ≤ v1 → (wp_X6_get w ln v2 p0 v1 (fun u3 : Int32 => wp_X6_get w ln v2 p1 v1 (fun u4 : Int32 => wp_X6_put w ln v2 p0 v1 u4 (fun u5 : XRow => wp_X6_put w ln u5 p1 v1 u3 (fun u6 : XRow => ∀ x7 : Int32, x7 = v1 + 1 → (wp_X6_swapRows_L2 w ln p0 p1 k2_44 fu x7 u6)))))))
def wp_X6_swapRows (w : Int32) (ln : Nat) (f : XRow) (p0 : Int32) (p1 : Int32) (post : XRow → Prop) : Prop := ∃ fl, wp_X6_swapRows_L2 w ln p0 p1 (fun (v8 : Int32) (v9 : XRow) => post v9) fl 0 f
theorem in_X6_swapRows_X6 : ∀ w ∈ u_ws RX6 TX6 2, w ∈ wsX6_swapRows := by decide +kernel
set_option maxRecDepth 100000 in
set_option maxHeartbeats 4000000 in
theorem c_X6_swapRows (l : Launch) (D : va_G) (cy : Nat → ClassId) (sd : xSd) (a0 a1 : Nat) (w : Int32) (ln : Nat) (f : XRow) (p0 : Int32) (p1 : Int32) {post : XRow → Prop} (hw : wp_X6_swapRows w ln f p0 p1 post) : Ctr l D (xTys cy) sd yX6_swapRows wsX6_swapRows ({ frames := 1, cells := 0, slots := 0, locals := 24 } : Room) [.ref a0, .int p0, .int p1] (fun u : XRow => none) [(a0, .inr (7, [.int w, .ref a1])), (a1, .inl (cy 0, ln, .inl f))] (fun u => [(a0, .inr (7, [.int w, .ref a1])), (a1, .inl (cy 0, ln, .inl u))]) post := by
  refine Ctr.of (cc := cX6_swapRows) (maxL := 5) (ret := none) (lv0 := [(0, .ref a0), (1, .int p0), (2, .int p1)]) (by decide) rfl (Nat.le_of_ble_eq_true rfl) rfl ?_
  intro X El hR Er Enm ED E En K
  have K : Cx X cX6_swapRows RX6 wsX6_swapRows (xTys cy) sd := K
  have E : X.2.2.2.2.2.2.2.2.2.2.1 = xMQ X (fun u : XRow => none) post (fun u => [(a0, .inr (7, [.int w, .ref a1])), (a1, .inl (cy 0, ln, .inl u))]) 0 0 := E
  unfold wp_X6_swapRows at hw
  refine g_iconst (v := 0) K dX6_swapRows_0 rfl ?_
  refine g_istore_n (lv' := [(3, .int 0), (0, .ref a0), (1, .int p0), (2, .int p1)]) K dX6_swapRows_1 rfl (by rw [En]; decide) rfl ?_
  obtain ⟨fl, hw⟩ := hw
  have key : ∀ (k2_44 : Int32 → XRow → Prop), (∀ (v1 : Int32) (v2 : XRow), k2_44 v1 v2 → Gx X 0 0 [(a0, .inr (7, [.int w, .ref a1])), (a1, .inl (cy 0, ln, .inl v2))] [(3, .int v1), (0, .ref a0), (1, .int p0), (2, .int p1)] 44 []) → ∀ (n : Nat) (v1 : Int32) (v2 : XRow), wp_X6_swapRows_L2 w ln p0 p1 k2_44 n v1 v2 → Gx X 0 0 [(a0, .inr (7, [.int w, .ref a1])), (a1, .inl (cy 0, ln, .inl v2))] [(3, .int v1), (0, .ref a0), (1, .int p0), (2, .int p1)] 2 [] := by
    intro k2_44 hx44 n
    induction n with
    | zero => intro v1 v2 hw; exact hw.elim
    | succ n ih =>
      intro v1 v2 hw
      refine g_iload_n K 0 dX6_swapRows_2 rfl ?_
      refine g_aload_n K 1 dX6_swapRows_3 rfl ?_
      refine g_get K (C := RX6) (T := TX6) (N := 2) 0 0 in_X6_swapRows_X6 (by decide +kernel) rfl rfl (by decide) rfl dX6_swapRows_4 ?_
      refine g_icmp_ge (tgt := 44) K dX6_swapRows_7 (by decide) (fun hc => ?_) (fun hc => ?_)
      · replace hw := hw.1 hc
        exact hx44 _ _ hw
      · replace hw := hw.2 hc
        refine g_aload_n K 1 dX6_swapRows_10 rfl ?_
        refine g_iload_n K 2 dX6_swapRows_11 rfl ?_
        refine g_iload_n K 0 dX6_swapRows_12 rfl ?_
        refine g_callVr (st' := fun u3 => [.int u3]) K hR [.int p0, .int v1] [] 0 rfl rfl (c_X6_get X.2.1 (gxD X) cy sd a0 a1 w ln v2 p0 v1 hw) gX6_swapRows_X6_get rfl yok_X6_get rfl rfl (by decide) rfl (Nat.le_of_ble_eq_true rfl) dX6_swapRows_13 [0, 1] rfl (by decide) (fun _ => rfl) ⟨rfl, rfl⟩ (fun u3 hw => ?_)
        refine g_istore (lv' := [(4, .int u3), (3, .int v1), (0, .ref a0), (1, .int p0), (2, .int p1)]) K dX6_swapRows_16 (by rw [En]; decide) rfl ?_
        refine g_aload_n K 2 dX6_swapRows_18 rfl ?_
        refine g_iload_n K 3 dX6_swapRows_19 rfl ?_
        refine g_iload_n K 1 dX6_swapRows_20 rfl ?_
        refine g_aload_n K 2 dX6_swapRows_21 rfl ?_
        refine g_iload_n K 4 dX6_swapRows_22 rfl ?_
        refine g_iload_n K 1 dX6_swapRows_23 rfl ?_
        refine g_callVr (st' := fun u4 => [.int u4, .int v1, .int p0, .ref a0]) K hR [.int p1, .int v1] [.int v1, .int p0, .ref a0] 0 rfl rfl (c_X6_get X.2.1 (gxD X) cy sd a0 a1 w ln v2 p1 v1 hw) gX6_swapRows_X6_get rfl yok_X6_get rfl rfl (by decide) rfl (Nat.le_of_ble_eq_true rfl) dX6_swapRows_24 [0, 1] rfl (by decide) (fun _ => rfl) ⟨rfl, rfl⟩ (fun u4 hw => ?_)
        refine g_callV (st' := fun u5 => []) (ws' := fun u5 => [(a0, .inr (7, [.int w, .ref a1])), (a1, .inl (cy 0, ln, .inl u5))]) K hR [.int p0, .int v1, .int u4] [] 0 rfl rfl (c_X6_put X.2.1 (gxD X) cy sd a0 a1 w ln v2 p0 v1 u4 hw) gX6_swapRows_X6_put rfl yok_X6_put rfl rfl (by decide) rfl (Nat.le_of_ble_eq_true rfl) dX6_swapRows_27 [0, 1] rfl (by decide) (fun _ => rfl) (fun _ => rfl) (fun _ => rfl) ⟨rfl, rfl⟩ (fun u5 hw => ?_)
        refine g_aload_n K 2 dX6_swapRows_30 rfl ?_
        refine g_iload_n K 4 dX6_swapRows_31 rfl ?_
        refine g_iload_n K 1 dX6_swapRows_32 rfl ?_
        refine g_iload K 0 dX6_swapRows_33 rfl ?_
        refine g_callV (st' := fun u6 => []) (ws' := fun u6 => [(a0, .inr (7, [.int w, .ref a1])), (a1, .inl (cy 0, ln, .inl u6))]) K hR [.int p1, .int v1, .int u3] [] 0 rfl rfl (c_X6_put X.2.1 (gxD X) cy sd a0 a1 w ln u5 p1 v1 u3 hw) gX6_swapRows_X6_put rfl yok_X6_put rfl rfl (by decide) rfl (Nat.le_of_ble_eq_true rfl) dX6_swapRows_35 [0, 1] rfl (by decide) (fun _ => rfl) (fun _ => rfl) (fun _ => rfl) ⟨rfl, rfl⟩ (fun u6 hw => ?_)
        obtain ⟨x7, ex7⟩ : ∃ z : Int32, z = v1 + 1 := ⟨_, rfl⟩
        replace hw := hw x7 ex7
        refine g_iinc (v := x7) (lv' := [(3, .int x7), (4, .int u3), (0, .ref a0), (1, .int p0), (2, .int p1)]) K 1 dX6_swapRows_38 rfl (by rw [ex7]; rfl) (by rw [En]; decide) rfl ?_
        refine g_goto (tgt := 2) K dX6_swapRows_41 (by decide) ?_
        refine gx_locals [0, 2, 3, 4] rfl ?_
        exact ih _ _ hw
  refine key _ (fun v8 v9 hw => ?_) fl _ _ hw
  exact g_vret K E Er v9 hw rfl rfl (Nat.le_refl _) (Nat.le_refl _) dX6_swapRows_44

def wp_X6_copyFrom (ln : Nat) (f : XRow) (lnb : Nat) (fb : XRow) (post : XRow → Prop) : Prop := (¬ (xMin (Int32.ofNat ln) (Int32.ofNat lnb)) < 0 ∧ (xMin (Int32.ofNat ln) (Int32.ofNat lnb)).toNatClampNeg ≤ lnb ∧ (xMin (Int32.ofNat ln) (Int32.ofNat lnb)).toNatClampNeg ≤ ln) ∧ (post (va_cpy fb f 0 0 (xMin (Int32.ofNat ln) (Int32.ofNat lnb)).toNatClampNeg))
theorem in_X6_copyFrom_X6 : ∀ w ∈ u_ws RX6 TX6 2, w ∈ wsX6_copyFrom := by decide +kernel
set_option maxRecDepth 100000 in
set_option maxHeartbeats 4000000 in
theorem c_X6_copyFrom (l : Launch) (D : va_G) (cy : Nat → ClassId) (sd : xSd) (a0 a1 : Nat) (b0 b1 : Nat) (w : Int32) (ln : Nat) (f : XRow) (wb : Int32) (lnb : Nat) (fb : XRow) {post : XRow → Prop} (hw : wp_X6_copyFrom ln f lnb fb post) : Ctr l D (xTys cy) sd yX6_copyFrom wsX6_copyFrom ({ frames := 1, cells := 0, slots := 0, locals := 60 } : Room) [.ref a0, .ref b0] (fun u : XRow => none) [(a0, .inr (7, [.int w, .ref a1])), (a1, .inl (cy 0, ln, .inl f)), (b0, .inr (7, [.int wb, .ref b1])), (b1, .inl (cy 0, lnb, .inl fb))] (fun u => [(a0, .inr (7, [.int w, .ref a1])), (a1, .inl (cy 0, ln, .inl u)), (b0, .inr (7, [.int wb, .ref b1])), (b1, .inl (cy 0, lnb, .inl fb))]) post := by
  refine Ctr.of (cc := cX6_copyFrom) (maxL := 2) (ret := none) (lv0 := [(0, .ref a0), (1, .ref b0)]) (by decide) rfl (Nat.le_of_ble_eq_true rfl) rfl ?_
  intro X El hR Er Enm ED E En K
  have K : Cx X cX6_copyFrom RX6 wsX6_copyFrom (xTys cy) sd := K
  have E : X.2.2.2.2.2.2.2.2.2.2.1 = xMQ X (fun u : XRow => none) post (fun u => [(a0, .inr (7, [.int w, .ref a1])), (a1, .inl (cy 0, ln, .inl u)), (b0, .inr (7, [.int wb, .ref b1])), (b1, .inl (cy 0, lnb, .inl fb))]) 0 0 := E
  unfold wp_X6_copyFrom at hw
  refine g_aload_n K 1 dX6_copyFrom_0 rfl ?_
  refine g_get K (C := RX6) (T := TX6) (N := 2) 2 1 in_X6_copyFrom_X6 (by decide +kernel) rfl rfl (by decide) rfl dX6_copyFrom_1 ?_
  refine g_iconst (v := 0) K dX6_copyFrom_4 rfl ?_
  refine g_aload_n K 0 dX6_copyFrom_5 rfl ?_
  refine g_get K (C := RX6) (T := TX6) (N := 2) 0 1 in_X6_copyFrom_X6 (by decide +kernel) rfl rfl (by decide) rfl dX6_copyFrom_6 ?_
  refine g_iconst (v := 0) K dX6_copyFrom_9 rfl ?_
  refine g_aload_n K 0 dX6_copyFrom_10 rfl ?_
  refine g_get K (C := RX6) (T := TX6) (N := 2) 0 1 in_X6_copyFrom_X6 (by decide +kernel) rfl rfl (by decide) rfl dX6_copyFrom_11 ?_
  refine g_alen (v := Int32.ofNat ln) K 1 0 rfl rfl rfl dX6_copyFrom_14 ?_
  refine g_aload_n K 1 dX6_copyFrom_15 rfl ?_
  refine g_get K (C := RX6) (T := TX6) (N := 2) 2 1 in_X6_copyFrom_X6 (by decide +kernel) rfl rfl (by decide) rfl dX6_copyFrom_16 ?_
  refine g_alen (v := Int32.ofNat lnb) K 3 0 rfl rfl rfl dX6_copyFrom_19 ?_
  refine g_mmin K hR (by decide +kernel) (by decide +kernel) (by decide +kernel) (by decide +kernel) (by decide) (Nat.le_of_ble_eq_true rfl) dX6_copyFrom_20 ?_
  refine g_acopy (w' := [(a0, .inr (7, [.int w, .ref a1])), (a1, .inl (cy 0, ln, .inl (va_cpy fb f 0 0 (xMin (Int32.ofNat ln) (Int32.ofNat lnb)).toNatClampNeg))), (b0, .inr (7, [.int wb, .ref b1])), (b1, .inl (cy 0, lnb, .inl fb))]) K hR 3 1 0 (by decide +kernel) (by decide +kernel) (by decide +kernel) (by decide +kernel) rfl rfl rfl rfl hw.1 (by decide) (Nat.le_of_ble_eq_true rfl) rfl dX6_copyFrom_23 ?_
  replace hw := hw.2
  exact g_vret K E Er (va_cpy fb f 0 0 (xMin (Int32.ofNat ln) (Int32.ofNat lnb)).toNatClampNeg) hw rfl rfl (Nat.le_refl _) (Nat.le_refl _) dX6_copyFrom_26
