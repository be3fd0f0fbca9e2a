/-! ===== String's own methods over the four texts whose signs are read ===== -/
def xLen (k : Fin 4) : Int32 := Int32.ofNat (xTl.getD k.val 0)
def xEmpty (k : Fin 4) : Bool := decide (xTl.getD k.val 0 = 0)
def xChr (k : Fin 4) (i : Int32) : Int32 := ((((xTb.getD k.val []).getD i.toNatClampNeg 0) &&& 255).toUInt32 % 65536).toInt32
section GS
variable {X : GXt} {cc : ByteArray} {own : String} {Ts : List Cond} {tys : List (ClassId × FieldType)} {sd : xSd} {cl sl : Nat} {ws : va_W} {lv : List (Nat × Value)} {pc : Nat} {rest : List Value} {R0 : Room} {index : Nat}
theorem g_sget (K : Cx X cc own Ts tys sd) {o n d : String} {q : Nat} {v : Value} (hE : va_OF o n d v q (gxA X) (gxS X) (gxS X).heap) (hlink : Cond.fieldLink own index o n d ∈ Ts) (hd : decode cc pc = .ok (.getfield index, 3)) (kk : Gx X cl sl ws lv (pc + 3) (v :: rest)) : Gx X cl sl ws lv pc (.ref q :: rest) :=
  fun H locs ls hP hD hS hl => vk_getf K.1.1 K.1.2.1 hE hS K.1.2.2.2.1 (K.1.2.2.2.2 _ hlink) (fun _ h => h) hd (kk H locs ls hP hD hS hl)
theorem g_sgets (K : Cx X cc own Ts tys sd) {C n d : String} {v : Value} (hZ : va_Z C n d v (gxA X) (gxS X) (gxS X).heap) (hlink : Cond.fieldLink own index C n d ∈ Ts) (hd : decode cc pc = .ok (.getstatic index, 3)) (kk : Gx X cl sl ws lv (pc + 3) (v :: rest)) : Gx X cl sl ws lv pc rest :=
  fun H locs ls hP hD hS hl => va_gets K.1.1 K.1.2.1 hZ hS K.1.2.2.2.1 (K.1.2.2.2.2 _ hlink) (fun _ h => h) hd (kk H locs ls hP hD hS hl)
theorem g_slen (K : Cx X cc own Ts tys sd) (k : Nat) (hk : k < 4) (hd : decode cc pc = .ok (.arraylength, 1)) (kk : Gx X cl sl ws lv (pc + 1) (.int (Int32.ofNat (xTl.getD k 0)) :: rest)) : Gx X cl sl ws lv pc (.ref (sd.2.2.2 k) :: rest) :=
  fun H locs ls hP hD hS hl => va_tlen K.1.1 K.1.2.1 ((K.2.2.2.1.2.2.2.2.1.1 k hk).2.2.2) hS rfl hd (kk H locs ls hP hD hS hl)
theorem g_sbyt (K : Cx X cc own Ts tys sd) (k : Nat) (hk : k < 4) {i : Int32} (hi : vp_in i (xTl.getD k 0)) (hd : decode cc pc = .ok (.baload, 1)) (kk : Gx X cl sl ws lv (pc + 1) (.int ((xTb.getD k []).getD i.toNatClampNeg 0) :: rest)) : Gx X cl sl ws lv pc (.int i :: .ref (sd.2.2.2 k) :: rest) :=
  fun H locs ls hP hD hS hl => va_tb K.1.1 K.1.2.1 ((K.2.2.2.1.2.2.2.2.1.1 k hk).2.2.2) hS hi rfl hd (kk H locs ls hP hD hS hl)
/-- a call on a text -/
theorem g_callStr (K : Cx X cc own Ts tys sd) (hR : X.2.2.2.1 = R0) (k : Nat) (hk : k < 4) (As : List Value) {y : MethodName} {ws_ ws9 : List Cond} {rm : Room} {st0 : List Value} {S : Type} {rv : S → Option Value} {st' : S → List Value} {post : S → Prop} {n maxL : Nat} {bytes : ByteArray} {ret : Option FieldType} (hM : Ctr X.2.1 (gxD X) tys sd y ws_ rm (.ref (sd.2.2.1 k) :: As) rv [] (fun _ => []) post) (hG : GoodIn Ts (wsV own index "java/lang/String" y ws_)) (hw : ws_ = Cond.code y bytes maxL ret :: ws9) (hy : yOk y n) (hyc : y.cls = "java/lang/String") (hn : As.length = n) (hrm : rmOk R0 rm maxL cl sl = true)
    (hst0 : As.reverse ++ .ref (sd.2.2.1 k) :: rest = st0) (hcat : (rest.map fun v => v.category).sum ≤ 8) (hd : decode cc pc = .ok (.invokevirtual index, 3)) (hst : ∀ u, (rv u).toList ++ rest = st' u) (hz : rm.cells = 0 ∧ rm.slots = 0) (kk : ∀ u, post u → Gx X cl sl ws lv (pc + 3) (st' u)) : Gx X cl sl ws lv pc st0 := by
  obtain ⟨hr1, hr2⟩ := rmOk_of hrm
  refine g_callX0 (av := (Value.ref (sd.2.2.1 k) :: As).toArray) (mc := rm.cells) (ms := rm.slots) (wi := []) (wo := fun _ => []) (w1 := fun _ => []) (wn := fun _ => []) (ws' := fun _ => ws) (st' := st') K [] rfl rfl (fun _ => rfl) (fun _ => rfl) (fun _ => List.append_nil _) hst (by rw [hz.1]; rfl) (by rw [hz.2]; rfl) (fun H locs ls hP hD hS hl => ?_) kk
  have hpre := g_pre (wi := []) (av := .ref (sd.2.2.1 k) :: As) K hP hD hS [] rfl rfl
  exact va_runV (As := As) (rest := rest) K.1 (hM H.size) (cwV n K.1.2.2.2.2 hG hw rfl rfl ⟨hyc, hy⟩ (by rw [hR]; exact hr1)) ⟨hpre.1, vk_recv K.2.2.2.1.2.2.2.2.1 hk hS, hpre.2⟩ rfl hn hl.1 hst0.symm (lv_room hcat) hd (by rw [hR]; exact hr2)
end GS
theorem yok_J0_isEmpty_aae02 : yOk yJ0_isEmpty_aae02 0 := by decide +kernel
theorem yok_J0_length_8abf5 : yOk yJ0_length_8abf5 0 := by decide +kernel
theorem yok_J0_coder_7d493 : yOk yJ0_coder_7d493 0 := by decide +kernel
theorem yok_J0_isLatin1_aae02 : yOk yJ0_isLatin1_aae02 0 := by decide +kernel
theorem yok_J0_charAt_5068e : yOk yJ0_charAt_5068e 1 := by decide +kernel
theorem yok_J0_checkIndex_df160 : yOk yJ0_checkIndex_df160 2 := by decide +kernel
theorem yok_J1_charAt_3b067 : yOk yJ1_charAt_3b067 2 := by decide +kernel
theorem yok_J3_checkIndex_8e157 : yOk yJ3_checkIndex_8e157 3 := by decide +kernel
abbrev rmK (f lo : Nat) : Room := { frames := f, cells := 0, slots := 0, locals := lo }
set_option maxRecDepth 100000 in
set_option maxHeartbeats 4000000 in
theorem c_J0_isEmpty (l : Launch) (D : va_G) (cy : Nat → ClassId) (sd : xSd) (k : Fin 4) {post : Bool → Prop} (hw : post (xEmpty k)) : Ctr l D (xTys cy) sd yJ0_isEmpty_aae02 wsJ0_isEmpty_aae02 (rmK 0 0) [.ref (sd.2.2.1 k.val)] (fun u : Bool => some (.int (bI u))) [] (fun _ => []) post := by
  refine Ctr.of (cc := cJ0_isEmpty_aae02) (maxL := 1) (ret := (some .boolean)) (lv0 := [(0, .ref (sd.2.2.1 k.val))]) (by decide) rfl (Nat.le_of_ble_eq_true rfl) rfl ?_
  intro X El hR Er Enm ED E En K
  have K : Cx X cJ0_isEmpty_aae02 RJ0 wsJ0_isEmpty_aae02 (xTys cy) sd := K
  refine g_aload_n K 0 dJ0_isEmpty_aae02_0 rfl ?_
  refine g_sget K (K.2.2.2.1.2.2.2.2.1.1 k.val k.isLt).2.2.1 (by decide +kernel) dJ0_isEmpty_aae02_1 ?_
  refine g_slen K k.val k.isLt dJ0_isEmpty_aae02_4 ?_
  have e1 : ∀ k : Fin 4, ¬ Int32.ofNat (xTl.getD k.val 0) = 0 → xEmpty k = false := by decide
  have e2 : ∀ k : Fin 4, Int32.ofNat (xTl.getD k.val 0) = 0 → xEmpty k = true := by decide
  refine g_if_ne (tgt := 12) K dJ0_isEmpty_aae02_5 (by decide) (fun hc => ?_) (fun hc => ?_)
  · rw [e1 k hc] at hw
    refine g_iconst (v := 0) K dJ0_isEmpty_aae02_12 rfl ?_
    exact g_zret K E Er false hw rfl rfl rfl (Nat.le_refl _) (Nat.le_refl _) dJ0_isEmpty_aae02_13
  · rw [e2 k hc] at hw
    refine g_iconst (v := 1) K dJ0_isEmpty_aae02_8 rfl ?_
    refine g_goto (tgt := 13) K dJ0_isEmpty_aae02_9 (by decide) ?_
    exact g_zret K E Er true hw rfl rfl rfl (Nat.le_refl _) (Nat.le_refl _) dJ0_isEmpty_aae02_13
set_option maxRecDepth 100000 in
set_option maxHeartbeats 4000000 in
theorem c_J0_coder (l : Launch) (D : va_G) (cy : Nat → ClassId) (sd : xSd) (k : Fin 4) {post : Int32 → Prop} (hw : post 0) : Ctr l D (xTys cy) sd yJ0_coder_7d493 wsJ0_coder_7d493 (rmK 0 0) [.ref (sd.2.2.1 k.val)] (fun u : Int32 => some (.int u)) [] (fun _ => []) post := by
  refine Ctr.of (cc := cJ0_coder_7d493) (maxL := 1) (ret := (some .byte)) (lv0 := [(0, .ref (sd.2.2.1 k.val))]) (by decide) rfl (Nat.le_of_ble_eq_true rfl) rfl ?_
  intro X El hR Er Enm ED E En K
  have K : Cx X cJ0_coder_7d493 RJ0 wsJ0_coder_7d493 (xTys cy) sd := K
  refine g_sgets K K.2.2.2.1.2.2.2.2.2.2.2.1.1 (by decide +kernel) dJ0_coder_7d493_0 ?_
  refine g_if_eq (tgt := 13) K dJ0_coder_7d493_3 (by decide) (fun hc => absurd hc (by decide)) (fun _ => ?_)
  refine g_aload_n K 0 dJ0_coder_7d493_6 rfl ?_
  refine g_sget K (K.2.2.2.1.2.2.2.2.1.1 k.val k.isLt).2.1 (by decide +kernel) dJ0_coder_7d493_7 ?_
  refine g_goto (tgt := 14) K dJ0_coder_7d493_10 (by decide) ?_
  exact g_zret K E Er 0 hw rfl rfl rfl (Nat.le_refl _) (Nat.le_refl _) dJ0_coder_7d493_14
set_option maxRecDepth 100000 in
set_option maxHeartbeats 4000000 in
theorem c_J0_isLatin1 (l : Launch) (D : va_G) (cy : Nat → ClassId) (sd : xSd) (k : Fin 4) {post : Bool → Prop} (hw : post true) : Ctr l D (xTys cy) sd yJ0_isLatin1_aae02 wsJ0_isLatin1_aae02 (rmK 0 0) [.ref (sd.2.2.1 k.val)] (fun u : Bool => some (.int (bI u))) [] (fun _ => []) post := by
  refine Ctr.of (cc := cJ0_isLatin1_aae02) (maxL := 1) (ret := (some .boolean)) (lv0 := [(0, .ref (sd.2.2.1 k.val))]) (by decide) rfl (Nat.le_of_ble_eq_true rfl) rfl ?_
  intro X El hR Er Enm ED E En K
  have K : Cx X cJ0_isLatin1_aae02 RJ0 wsJ0_isLatin1_aae02 (xTys cy) sd := K
  refine g_sgets K K.2.2.2.1.2.2.2.2.2.2.2.1.1 (by decide +kernel) dJ0_isLatin1_aae02_0 ?_
  refine g_if_eq (tgt := 17) K dJ0_isLatin1_aae02_3 (by decide) (fun hc => absurd hc (by decide)) (fun _ => ?_)
  refine g_aload_n K 0 dJ0_isLatin1_aae02_6 rfl ?_
  refine g_sget K (K.2.2.2.1.2.2.2.2.1.1 k.val k.isLt).2.1 (by decide +kernel) dJ0_isLatin1_aae02_7 ?_
  refine g_if_ne (tgt := 17) K dJ0_isLatin1_aae02_10 (by decide) (fun hc => absurd rfl hc) (fun _ => ?_)
  refine g_iconst (v := 1) K dJ0_isLatin1_aae02_13 rfl ?_
  refine g_goto (tgt := 18) K dJ0_isLatin1_aae02_14 (by decide) ?_
  exact g_zret K E Er true hw rfl rfl rfl (Nat.le_refl _) (Nat.le_refl _) dJ0_isLatin1_aae02_18
set_option maxRecDepth 100000 in
set_option maxHeartbeats 4000000 in
theorem c_J0_length (l : Launch) (D : va_G) (cy : Nat → ClassId) (sd : xSd) (k : Fin 4) {post : Int32 → Prop} (hw : post (xLen k)) : Ctr l D (xTys cy) sd yJ0_length_8abf5 wsJ0_length_8abf5 (rmK 1 20) [.ref (sd.2.2.1 k.val)] (fun u : Int32 => some (.int u)) [] (fun _ => []) post := by
  refine Ctr.of (cc := cJ0_length_8abf5) (maxL := 1) (ret := (some .int)) (lv0 := [(0, .ref (sd.2.2.1 k.val))]) (by decide) rfl (Nat.le_of_ble_eq_true rfl) rfl ?_
  intro X El hR Er Enm ED E En K
  have K : Cx X cJ0_length_8abf5 RJ0 wsJ0_length_8abf5 (xTys cy) sd := K
  refine g_aload_n K 0 dJ0_length_8abf5_0 rfl ?_
  refine g_sget K (K.2.2.2.1.2.2.2.2.1.1 k.val k.isLt).2.2.1 (by decide +kernel) dJ0_length_8abf5_1 ?_
  refine g_slen K k.val k.isLt dJ0_length_8abf5_4 ?_
  refine g_aload_n K 0 dJ0_length_8abf5_5 rfl ?_
  refine g_callStr (rest := [.int (Int32.ofNat (xTl.getD k.val 0))]) (st' := fun u : Int32 => [.int u, .int (Int32.ofNat (xTl.getD k.val 0))]) (post := fun u : Int32 => u = 0) K hR k.val k.isLt [] (c_J0_coder X.2.1 (gxD X) cy sd k rfl) gJ0_length_8abf5_J0_coder_7d493 rfl yok_J0_coder_7d493 rfl rfl (by decide) rfl (Nat.le_of_ble_eq_true rfl) dJ0_length_8abf5_6 (fun _ => rfl) ⟨rfl, rfl⟩ (fun u hu => ?_)
  subst hu
  refine g_ishr K dJ0_length_8abf5_9 ?_
  have e1 : ∀ k : Fin 4, Int32.ofNat (xTl.getD k.val 0) >>> ((0 : Int32) &&& 31) = xLen k := by decide
  rw [e1 k]
  exact g_zret K E Er (xLen k) hw rfl rfl rfl (Nat.le_refl _) (Nat.le_refl _) dJ0_length_8abf5_10
set_option maxRecDepth 100000 in
set_option maxHeartbeats 4000000 in
theorem c_J3_checkIndex (l : Launch) (D : va_G) (cy : Nat → ClassId) (sd : xSd) (i n : Int32) (v : Value) (hv : v = .null ∨ ∃ a, v = .ref a) (h0 : ¬ i < 0) (h1 : i < n) {post : Int32 → Prop} (hw : post i) : Ctr l D (xTys cy) sd yJ3_checkIndex_8e157 wsJ3_checkIndex_8e157 (rmK 0 0) [.int i, .int n, v] (fun u : Int32 => some (.int u)) [] (fun _ => []) post := by
  have hcat : v.category = 1 := by rcases hv with rfl | ⟨a, rfl⟩ <;> rfl
  refine Ctr.of (cc := cJ3_checkIndex_8e157) (maxL := 3) (ret := (some .int)) (lv0 := [(0, .int i), (1, .int n), (2, v)]) (by decide) rfl (by rcases hv with rfl | ⟨a, rfl⟩ <;> exact Nat.le_of_ble_eq_true rfl) rfl ?_
  intro X El hR Er Enm ED E En K
  have K : Cx X cJ3_checkIndex_8e157 RJ3 wsJ3_checkIndex_8e157 (xTys cy) sd := K
  refine g_iload_n K 0 dJ3_checkIndex_8e157_0 rfl ?_
  refine g_if_lt (tgt := 9) K dJ3_checkIndex_8e157_1 (by decide) (fun hc => absurd hc h0) (fun _ => ?_)
  refine g_iload_n K 0 dJ3_checkIndex_8e157_4 rfl ?_
  refine g_iload_n K 1 dJ3_checkIndex_8e157_5 rfl ?_
  refine g_icmp_lt (tgt := 16) K dJ3_checkIndex_8e157_6 (by decide) (fun _ => ?_) (fun hc => absurd h1 hc)
  refine g_iload_n K 0 dJ3_checkIndex_8e157_16 rfl ?_
  exact g_zret K E Er i hw rfl rfl rfl (Nat.le_refl _) (Nat.le_refl _) dJ3_checkIndex_8e157_17
set_option maxRecDepth 100000 in
set_option maxHeartbeats 4000000 in
theorem c_J0_checkIndex (l : Launch) (D : va_G) (cy : Nat → ClassId) (sd : xSd) (i n : Int32) (h0 : ¬ i < 0) (h1 : i < n) {post : Unit → Prop} (hw : post ()) : Ctr l D (xTys cy) sd yJ0_checkIndex_df160 wsJ0_checkIndex_df160 (rmK 1 22) [.int i, .int n] (fun _ : Unit => none) [] (fun _ => []) post := by
  refine Ctr.of (cc := cJ0_checkIndex_df160) (maxL := 2) (ret := none) (lv0 := [(0, .int i), (1, .int n)]) (by decide) rfl (Nat.le_of_ble_eq_true rfl) rfl ?_
  intro X El hR Er Enm ED E En K
  have K : Cx X cJ0_checkIndex_df160 RJ0 wsJ0_checkIndex_df160 (xTys cy) sd := K
  refine g_iload_n K 0 dJ0_checkIndex_df160_0 rfl ?_
  refine g_iload_n K 1 dJ0_checkIndex_df160_1 rfl ?_
  have hz : ∃ v : Value, (v = .null ∨ ∃ a, v = .ref a) ∧ va_Z "jdk/internal/util/Preconditions" "SIOOBE_FORMATTER" "Ljava/util/function/BiFunction;" v (gxA X) (gxS X) (gxS X).heap := by
    rcases K.2.2.2.1.2.2.2.2.2.2.2.1.2.1 with h | ⟨t, h⟩
    · exact ⟨_, Or.inl rfl, h⟩
    · exact ⟨_, Or.inr ⟨t, rfl⟩, h⟩
  obtain ⟨v, hv, hz⟩ := hz
  refine g_sgets K hz (by decide +kernel) dJ0_checkIndex_df160_2 ?_
  refine g_callSr (st' := fun u : Int32 => [.int u]) K hR [.int i, .int n, v] [] (c_J3_checkIndex (post := fun _ => True) X.2.1 (gxD X) cy sd i n v hv h0 h1 trivial) gJ0_checkIndex_df160_J3_checkIndex_8e157 rfl yok_J3_checkIndex_8e157 rfl (by decide) rfl (Nat.le_of_ble_eq_true rfl) dJ0_checkIndex_df160_5 [] rfl rfl (fun _ => rfl) ⟨rfl, rfl⟩ (fun u _ => ?_)
  refine g_pop K dJ0_checkIndex_df160_8 rfl ?_
  exact g_vret K E Er () hw rfl rfl (Nat.le_refl _) (Nat.le_refl _) dJ0_checkIndex_df160_9
set_option maxRecDepth 100000 in
set_option maxHeartbeats 4000000 in
theorem c_J1_charAt (l : Launch) (D : va_G) (cy : Nat → ClassId) (sd : xSd) (k : Fin 4) (i : Int32) (hi : vp_in i (xTl.getD k.val 0)) {post : Int32 → Prop} (hw : post (xChr k i)) : Ctr l D (xTys cy) sd yJ1_charAt_3b067 wsJ1_charAt_3b067 (rmK 2 43) [.ref (sd.2.2.2 k.val), .int i] (fun u : Int32 => some (.int u)) [] (fun _ => []) post := by
  refine Ctr.of (cc := cJ1_charAt_3b067) (maxL := 2) (ret := (some .char)) (lv0 := [(0, .ref (sd.2.2.2 k.val)), (1, .int i)]) (by decide) rfl (Nat.le_of_ble_eq_true rfl) rfl ?_
  intro X El hR Er Enm ED E En K
  have K : Cx X cJ1_charAt_3b067 RJ1 wsJ1_charAt_3b067 (xTys cy) sd := K
  have hlt : ∀ k : Fin 4, xTl.getD k.val 0 < 2 ^ 31 := by decide
  obtain ⟨j, hj, rfl⟩ := vp_in_of hi (hlt k)
  refine g_iload_n K 1 dJ1_charAt_3b067_0 rfl ?_
  refine g_aload_n K 0 dJ1_charAt_3b067_1 rfl ?_
  refine g_slen K k.val k.isLt dJ1_charAt_3b067_2 ?_
  refine g_callSr (st' := fun _ : Unit => []) K hR [.int (nI j), .int (Int32.ofNat (xTl.getD k.val 0))] [] (c_J0_checkIndex (post := fun _ => True) X.2.1 (gxD X) cy sd (nI j) (Int32.ofNat (xTl.getD k.val 0)) (nI_pos (by have := hlt k; omega)) (nI_lt hj (hlt k)) trivial) gJ1_charAt_3b067_J0_checkIndex_df160 rfl yok_J0_checkIndex_df160 rfl (by decide) rfl (Nat.le_of_ble_eq_true rfl) dJ1_charAt_3b067_3 [] rfl rfl (fun _ => rfl) ⟨rfl, rfl⟩ (fun u _ => ?_)
  refine g_aload_n K 0 dJ1_charAt_3b067_6 rfl ?_
  refine g_iload_n K 1 dJ1_charAt_3b067_7 rfl ?_
  refine g_sbyt K k.val k.isLt hi dJ1_charAt_3b067_8 ?_
  refine g_sipush (v := 255) K dJ1_charAt_3b067_9 (by decide) ?_
  refine g_iand K dJ1_charAt_3b067_12 ?_
  refine g_i2c (v := xChr k (nI j)) K dJ1_charAt_3b067_13 rfl ?_
  exact g_zret K E Er (xChr k (nI j)) hw rfl (pk_nc _) rfl (Nat.le_refl _) (Nat.le_refl _) dJ1_charAt_3b067_14
set_option maxRecDepth 100000 in
set_option maxHeartbeats 4000000 in
theorem c_J0_charAt (l : Launch) (D : va_G) (cy : Nat → ClassId) (sd : xSd) (k : Fin 4) (i : Int32) (hi : vp_in i (xTl.getD k.val 0)) {post : Int32 → Prop} (hw : post (xChr k i)) : Ctr l D (xTys cy) sd yJ0_charAt_5068e wsJ0_charAt_5068e (rmK 3 70) [.ref (sd.2.2.1 k.val), .int i] (fun u : Int32 => some (.int u)) [] (fun _ => []) post := by
  refine Ctr.of (cc := cJ0_charAt_5068e) (maxL := 2) (ret := (some .char)) (lv0 := [(0, .ref (sd.2.2.1 k.val)), (1, .int i)]) (by decide) rfl (Nat.le_of_ble_eq_true rfl) rfl ?_
  intro X El hR Er Enm ED E En K
  have K : Cx X cJ0_charAt_5068e RJ0 wsJ0_charAt_5068e (xTys cy) sd := K
  refine g_aload_n K 0 dJ0_charAt_5068e_0 rfl ?_
  refine g_callStr (rest := []) (st' := fun u : Bool => [.int (bI u)]) (post := fun u : Bool => u = true) K hR k.val k.isLt [] (c_J0_isLatin1 X.2.1 (gxD X) cy sd k rfl) gJ0_charAt_5068e_J0_isLatin1_aae02 rfl yok_J0_isLatin1_aae02 rfl rfl (by decide) rfl (Nat.le_of_ble_eq_true rfl) dJ0_charAt_5068e_1 (fun _ => rfl) ⟨rfl, rfl⟩ (fun u hu => ?_)
  subst hu
  refine g_if_eq (tgt := 16) K dJ0_charAt_5068e_4 (by decide) (fun hc => absurd hc (by decide)) (fun _ => ?_)
  refine g_aload_n K 0 dJ0_charAt_5068e_7 rfl ?_
  refine g_sget K (K.2.2.2.1.2.2.2.2.1.1 k.val k.isLt).2.2.1 (by decide +kernel) dJ0_charAt_5068e_8 ?_
  refine g_iload_n K 1 dJ0_charAt_5068e_11 rfl ?_
  refine g_callSr (st' := fun u : Int32 => [.int u]) K hR [.ref (sd.2.2.2 k.val), .int i] [] (c_J1_charAt (post := fun u => u = xChr k i) X.2.1 (gxD X) cy sd k i hi rfl) gJ0_charAt_5068e_J1_charAt_3b067 rfl yok_J1_charAt_3b067 rfl (by decide) rfl (Nat.le_of_ble_eq_true rfl) dJ0_charAt_5068e_12 [] rfl rfl (fun _ => rfl) ⟨rfl, rfl⟩ (fun u hu => ?_)
  subst hu
  exact g_zret K E Er (xChr k i) hw rfl (pk_nc _) rfl (Nat.le_refl _) (Nat.le_refl _) dJ0_charAt_5068e_15
section GS2
variable {X : GXt} {cc : ByteArray} {own : String} {Ts : List Cond} {cy : Nat → ClassId} {sd : xSd} {cl sl : Nat} {ws : va_W} {lv : List (Nat × Value)} {pc : Nat} {rest : List Value} {R0 : Room} {index : Nat}
theorem g_str_isEmpty (K : Cx X cc own Ts (xTys cy) sd) (hR : X.2.2.2.1 = R0) (k : Fin 4) (hG : GoodIn Ts (wsV own index "java/lang/String" yJ0_isEmpty_aae02 wsJ0_isEmpty_aae02)) (hrm : rmOk R0 (rmK 0 0) 1 cl sl = true) (hcat : (rest.map fun v => v.category).sum ≤ 8) (hd : decode cc pc = .ok (.invokevirtual index, 3)) (kk : Gx X cl sl ws lv (pc + 3) (.int (bI (xEmpty k)) :: rest)) : Gx X cl sl ws lv pc (.ref (sd.2.2.1 k.val) :: rest) :=
  g_callStr (st' := fun u : Bool => .int (bI u) :: rest) (post := fun u => u = xEmpty k) K hR k.val k.isLt [] (c_J0_isEmpty _ _ _ _ k rfl) hG rfl yok_J0_isEmpty_aae02 rfl rfl hrm rfl hcat hd (fun _ => rfl) ⟨rfl, rfl⟩ (fun u hu => by subst hu; exact kk)
theorem g_str_length (K : Cx X cc own Ts (xTys cy) sd) (hR : X.2.2.2.1 = R0) (k : Fin 4) (hG : GoodIn Ts (wsV own index "java/lang/String" yJ0_length_8abf5 wsJ0_length_8abf5)) (hrm : rmOk R0 (rmK 1 20) 1 cl sl = true) (hcat : (rest.map fun v => v.category).sum ≤ 8) (hd : decode cc pc = .ok (.invokevirtual index, 3)) (kk : Gx X cl sl ws lv (pc + 3) (.int (xLen k) :: rest)) : Gx X cl sl ws lv pc (.ref (sd.2.2.1 k.val) :: rest) :=
  g_callStr (st' := fun u : Int32 => .int u :: rest) (post := fun u => u = xLen k) K hR k.val k.isLt [] (c_J0_length _ _ _ _ k rfl) hG rfl yok_J0_length_8abf5 rfl rfl hrm rfl hcat hd (fun _ => rfl) ⟨rfl, rfl⟩ (fun u hu => by subst hu; exact kk)
theorem g_str_charAt (K : Cx X cc own Ts (xTys cy) sd) (hR : X.2.2.2.1 = R0) (k : Fin 4) (hG : GoodIn Ts (wsV own index "java/lang/String" yJ0_charAt_5068e wsJ0_charAt_5068e)) {i : Int32} (hi : vp_in i (xTl.getD k.val 0)) (hrm : rmOk R0 (rmK 3 70) 2 cl sl = true) (hcat : (rest.map fun v => v.category).sum ≤ 8) (hd : decode cc pc = .ok (.invokevirtual index, 3)) (kk : Gx X cl sl ws lv (pc + 3) (.int (xChr k i) :: rest)) : Gx X cl sl ws lv pc (.int i :: .ref (sd.2.2.1 k.val) :: rest) :=
  g_callStr (st' := fun u : Int32 => .int u :: rest) (post := fun u => u = xChr k i) K hR k.val k.isLt [.int i] (c_J0_charAt _ _ _ _ k i hi rfl) hG rfl yok_J0_charAt_5068e rfl rfl hrm rfl hcat hd (fun _ => rfl) ⟨rfl, rfl⟩ (fun u hu => by subst hu; exact kk)
end GS2
