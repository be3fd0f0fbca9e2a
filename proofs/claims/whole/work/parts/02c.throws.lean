/-! ===== methods that throw ===== -/
abbrev gxQ (X : GXt) (Q : State → Prop) : GXt := (X.1, X.2.1, X.2.2.1, X.2.2.2.1, X.2.2.2.2.1, X.2.2.2.2.2.1, X.2.2.2.2.2.2.1, X.2.2.2.2.2.2.2.1, X.2.2.2.2.2.2.2.2.1, X.2.2.2.2.2.2.2.2.2.1, Q, X.2.2.2.2.2.2.2.2.2.2.2)
abbrev xXC {SX : Type} (D : va_G) (A : Nat → Prop) (woX : SX → va_W) (postX : String → SX → Prop) : String → State → State → Prop := fun E st t => ∃ u : SX, postX E u ∧ va_P D vwCl (woX u) t.heap ∧ va_D A (woX u) ∧ va_F A st t
abbrev xMQX (X : GXt) {S SX : Type} (rv : S → Option Value) (post : S → Prop) (wo : S → va_W) (woX : SX → va_W) (postX : String → SX → Prop) (mc ms : Nat) : State → Prop := vx_MQ X.2.2.2.2.2.2.2.1 (Qg rv post (xB (gxD X) (gxA X) wo) (gxA X)) (xXC (gxD X) (gxA X) woX postX) (gxargs X) (gxS X) mc ms (gxA X)
def CtrX (l : Launch) (D : va_G) (tys : List (ClassId × FieldType)) (sd : xSd) (y : MethodName) (ws : List Cond) (rm : Room) (av : List Value) {S SX : Type} (rv : S → Option Value) (wi : va_W) (wo : S → va_W) (post : S → Prop) (woX : SX → va_W) (postX : String → SX → Prop) : Prop :=
  ∀ sz : Nat, vx_Met l y ws rm (xPc D tys sd av wi sz) (Qg rv post (xB D (va_A wi sz) wo) (va_A wi sz)) (xXC D (va_A wi sz) woX postX) rm.cells rm.slots (va_A wi sz)
set_option maxHeartbeats 1000000 in
theorem CtrX.of {l : Launch} {D : va_G} {tys : List (ClassId × FieldType)} {sd : xSd} {y : MethodName} {ws ws' : List Cond} {rm : Room} {av : List Value} {S SX : Type} {rv : S → Option Value} {wi : va_W} {wo : S → va_W} {post : S → Prop} {woX : SX → va_W} {postX : String → SX → Prop} {cc : ByteArray} {maxL : Nat} {ret : Option FieldType} {lv0 : List (Nat × Value)}
    (hy : plainName y.cls = true) (hw : ws = Cond.code y cc maxL ret :: ws') (hlen : (lg_sl av).length ≤ maxL) (hlv : lv_args 0 av = lv0)
    (body : ∀ X : GXt, X.2.1 = l → X.2.2.2.1 = rm → (gxmeth X).sig.returnType = ret → (∀ x ∈ (gxc X).exceptionTable.toList, False) → gxD X = D → X.2.2.2.2.2.2.2.2.2.2.1 = xMQX X rv post wo woX postX rm.cells rm.slots → gxn X = maxL → Cx X cc y.cls ws tys sd → Gx X 0 0 wi lv0 0 []) : CtrX l D tys sd y ws rm av rv wi wo post woX postX := by
  intro sz
  refine vx_ofW (cc := cc) (maxL := maxL) (ret := ret) hy hw ?_
  intro p e s m args below meth c s₁ B hml hex hv
  obtain ⟨rfl, hsz, hP, hK, hD0, hSF⟩ := hv
  have hts := atoms_spec (ws := ws) B.pre
  have hown : s.vm.findClass y.cls = some m.cls := findClass_of_methodNamed B.named
  subst hsz
  have hD := hD0.self (sz := s.heap.size)
  have hl := lv_entry av (n := maxL) hlen
  rw [hlv] at hl
  rw [lg_entry_eq]
  exact body (mkX p l e rm s m av.toArray below meth c (vx_MQ below (Qg rv post (xB D (va_A wi s.heap.size) wo) (va_A wi s.heap.size)) (xXC D (va_A wi s.heap.size) woX postX) av.toArray s rm.cells rm.slots (va_A wi s.heap.size)) D (va_A wi s.heap.size) maxL)
    rfl rfl B.returns hex rfl rfl rfl ⟨⟨B.exec, B.bytes, hml, hown, hts⟩, hK, fun q h => Or.inr h, hSF, B.notSynchronized⟩ s.heap [] _ hP hD va_S.rf hl
section GE
variable {X : GXt} {cc : ByteArray} {own : String} {Ts : List Cond} {tys : List (ClassId × FieldType)} {sd : xSd} {cl sl : Nat} {ws : va_W} {lv : List (Nat × Value)} {pc : Nat} {rest : List Value} {R0 : Room}
theorem g_toX {S SX : Type} {rv : S → Option Value} {post : S → Prop} {wo : S → va_W} {woX : SX → va_W} {postX : String → SX → Prop} {mc ms : Nat} {st : List Value} (E : X.2.2.2.2.2.2.2.2.2.2.1 = xMQX X rv post wo woX postX mc ms) (h : Gx (gxQ X (xMQ X rv post wo mc ms)) cl sl ws lv pc st) : Gx X cl sl ws lv pc st := by
  intro H locs ls hP hD hS hl
  show W _ _ _ _ _ _ _ _ _ _ H locs cl sl X.2.2.2.2.2.2.2.2.2.2.1 _
  rw [E]
  exact vx_ret (h H locs ls hP hD hS hl)
def xBad (cls : String) : List Cond := .castable cls cls :: xDecl.map .declares
theorem hat_in {own cls : String} {ic : Nat} {names : List String} {A : Nat → Prop} {args : Array Value} {s : State} {H : Heap} (hts : ∀ w ∈ Ts, w.before args s = true) (hF : SFx sd A s H) (hcls : cls ∈ xSix) (h : ∀ w ∈ (vx_atS own ic cls names).filter goodWord, w ∈ Ts) (h2 : ∀ w ∈ (vx_atS own ic cls names).filter (fun w => !goodWord w), w ∈ xBad cls) : ∀ w ∈ vx_atS own ic cls names, w.before args s = true := by
  refine vx_hat (B := xBad cls) (fun w hw => hts w (h w hw)) h2 (fun w hw => ?_)
  rcases List.mem_cons.mp hw with rfl | hw
  · exact va_Nw.use rfl (hF.2.2.2.2.2.2.2.1.2.2.2.1 cls hcls)
  · obtain ⟨x, hx, rfl⟩ := List.mem_map.mp hw
    exact va_Nw.use rfl (hF.2.2.2.2.2.2.2.1.2.2.1 x hx)
set_option maxHeartbeats 1000000 in
theorem g_throwS {S SX : Type} {rv : S → Option Value} {post : S → Prop} {wo : S → va_W} {woX : SX → va_W} {postX : String → SX → Prop} {mc ms ik is ic : Nat} {cls text : String} {names : List String} (K : Cx X cc "RecyclingSorter" Ts tys sd) (E : X.2.2.2.2.2.2.2.2.2.2.1 = xMQX X rv post wo woX postX mc ms) (hT : X.2.1.stackTraces = false) (hR : X.2.2.2.1 = R0) (hex : ∀ x ∈ (gxc X).exceptionTable.toList, False)
    (u : SX) (hp : postX cls u) (hwo : woX u = ws) (hcls : Bundle.fit cls = true) (hnames : ∀ n ∈ names, Bundle.fit n = true) (hk : Cond.classLink "RecyclingSorter" ik cls ∈ Ts) (hini : Cond.initialized cls ∈ Ts) (htx : (is, text) ∈ xEx) (hat : ∀ w ∈ (vx_atS "RecyclingSorter" ic cls names).filter goodWord, w ∈ Ts) (hsix : cls ∈ xSix) (h2 : ∀ w ∈ (vx_atS "RecyclingSorter" ic cls names).filter (fun w => !goodWord w), w ∈ xBad cls)
    (hgood : ∀ w ∈ Cond.classLink "RecyclingSorter" ik cls :: Cond.initialized cls :: vx_atS "RecyclingSorter" ic cls names, vx_ot w = true)
    (hrf : names.length + 3 < R0.frames) (hrl : 8 + (13 * (names.length + 1) + 43) ≤ R0.locals) (hcat : (rest.map fun v => v.category).sum ≤ 8) (hrc : cl + 1 ≤ R0.cells) (hrs : sl + 6 ≤ R0.slots) (hc : cl + 1 ≤ mc) (hs : sl + 6 ≤ ms)
    (d0 : decode cc pc = .ok (.new ik, 3)) (d3 : decode cc (pc + 3) = .ok (.dup, 1)) (d4 : decode cc (pc + 4) = .ok (.ldc is, 2)) (d6 : decode cc (pc + 6) = .ok (.invokespecial ic, 3)) (d9 : decode cc (pc + 9) = .ok (.athrow, 1)) : Gx X cl sl ws lv pc rest := by
  intro H locs ls hP hD hS hl
  show W _ _ _ _ _ _ _ _ _ _ H locs cl sl X.2.2.2.2.2.2.2.2.2.2.1 _
  rw [E]
  obtain ⟨sa, hstr⟩ := K.2.2.2.1.2.2.2.2.2.2.1 _ htx
  have ht := K.1.2.2.2.2
  exact vx_throwS (text := text) K.1.1 K.1.2.1 hT K.1.2.2.2.1 hcls hnames (ht _ hk) (ht _ hini) hstr (hat_in ht K.2.2.2.1 hsix hat h2) hgood K.2.2.2.1.2.2.1 K.2.2.2.1.2.2.2.1 hS (hl.1.trans K.1.2.2.1.symm) d0 d3 d4 d6 d9 (fun x hx => (hex x hx).elim) (by rw [hR]; exact hrf) (by rw [hR]; omega) (by rw [hR]; exact hrc) (by rw [hR]; exact hrs) K.2.2.2.2
    (fun t hA hz hk => ⟨u, hp, by rw [hwo]; exact fun k q hq => (hP k q hq).kept (hk q.1 (hP k q hq).lt), by rw [hwo]; exact hD, ⟨Nat.le_trans hS.1 hz, fun q h1 h2 => by rw [hk q (Nat.lt_of_lt_of_le h1 hS.1)]; exact hS.2.1 q h1 h2⟩⟩) hS.2.2 hc hs
set_option maxHeartbeats 1000000 in
theorem g_throwSW {S SX : Type} {rv : S → Option Value} {post : S → Prop} {wo : S → va_W} {woX : SX → va_W} {postX : String → SX → Prop} {mc ms ik is ic : Nat} {cls text : String} {names : List String} (K : Cx X cc "RecyclingSorter" Ts tys sd) (E : X.2.2.2.2.2.2.2.2.2.2.1 = xMQX X rv post wo woX postX mc ms) (hT : X.2.1.stackTraces = false) (hR : X.2.2.2.1 = R0) (hex : ∀ x ∈ (gxc X).exceptionTable.toList, False)
    (u : SX) (hp : postX cls u) (hwo : woX u = ws) (hcls : Bundle.fit cls = true) (hnames : ∀ n ∈ names, Bundle.fit n = true) (hk : Cond.classLink "RecyclingSorter" ik cls ∈ Ts) (hini : Cond.initialized cls ∈ Ts) (htx : (is, text) ∈ xEx) (hat : ∀ w ∈ (vx_atS "RecyclingSorter" ic cls names).filter goodWord, w ∈ Ts) (hsix : cls ∈ xSix) (h2 : ∀ w ∈ (vx_atS "RecyclingSorter" ic cls names).filter (fun w => !goodWord w), w ∈ xBad cls)
    (hgood : ∀ w ∈ Cond.classLink "RecyclingSorter" ik cls :: Cond.initialized cls :: vx_atS "RecyclingSorter" ic cls names, vx_ot w = true)
    (hrf : names.length + 3 < R0.frames) (hrl : 8 + (13 * (names.length + 1) + 43) ≤ R0.locals) (hcat : (rest.map fun v => v.category).sum ≤ 8) (hrc : cl + 1 ≤ R0.cells) (hrs : sl + 6 ≤ R0.slots) (hc : cl + 1 ≤ mc) (hs : sl + 6 ≤ ms)
    (d0 : decode cc pc = .ok (.new ik, 3)) (d3 : decode cc (pc + 3) = .ok (.dup, 1)) (d4 : decode cc (pc + 4) = .ok (.ldc_w is, 3)) (d7 : decode cc (pc + 7) = .ok (.invokespecial ic, 3)) (d10 : decode cc (pc + 10) = .ok (.athrow, 1)) : Gx X cl sl ws lv pc rest := by
  intro H locs ls hP hD hS hl
  show W _ _ _ _ _ _ _ _ _ _ H locs cl sl X.2.2.2.2.2.2.2.2.2.2.1 _
  rw [E]
  obtain ⟨sa, hstr⟩ := K.2.2.2.1.2.2.2.2.2.2.1 _ htx
  have ht := K.1.2.2.2.2
  exact vx_throwSW (text := text) K.1.1 K.1.2.1 hT K.1.2.2.2.1 hcls hnames (ht _ hk) (ht _ hini) hstr (hat_in ht K.2.2.2.1 hsix hat h2) hgood K.2.2.2.1.2.2.1 K.2.2.2.1.2.2.2.1 hS (hl.1.trans K.1.2.2.1.symm) d0 d3 d4 d7 d10 (fun x hx => (hex x hx).elim) (by rw [hR]; exact hrf) (by rw [hR]; omega) (by rw [hR]; exact hrc) (by rw [hR]; exact hrs) K.2.2.2.2
    (fun t hA hz hk => ⟨u, hp, by rw [hwo]; exact fun k q hq => (hP k q hq).kept (hk q.1 (hP k q hq).lt), by rw [hwo]; exact hD, ⟨Nat.le_trans hS.1 hz, fun q h1 h2 => by rw [hk q (Nat.lt_of_lt_of_le h1 hS.1)]; exact hS.2.1 q h1 h2⟩⟩) hS.2.2 hc hs
/-- a call of a method that may throw; a throw is not caught here -/
def GxX (X : GXt) (cl sl : Nat) (ws : va_W) (lv : List (Nat × Value)) (pc : Nat) (st : List Value) (E : String) : Prop :=
  ∀ (H : Heap) (locs : List Loc) (ls : Array Slot) (q9 : Addr) (ce : Cell), va_P (gxD X) vwCl ws H → va_D (gxA X) ws → va_S (gxA X) (gxS X).heap H locs → lv_has ls (gxn X) lv → H[q9]? = some ce → ce.vm = .none → (gxS X).vm.findClass E = some ce.cls →
    vx_W X.1 X.2.1 X.2.2.1 X.2.2.2.1 (gxS X) (gxm X) (gxargs X) X.2.2.2.2.2.2.2.1 (gxmeth X) (gxc X) H locs cl sl X.2.2.2.2.2.2.2.2.2.2.1 (F0 (gxm X) pc ls st) q9
set_option maxHeartbeats 1000000 in
theorem g_callX1 {S SX : Type} {rv : S → Option Value} {wi : va_W} {wo : S → va_W} {woX : SX → va_W} {ws' : S → va_W} {wsX : SX → va_W} {st' : S → List Value} {post : S → Prop} {postX : String → SX → Prop} {mc ms cl' sl' : Nat} {st0 : List Value} {av : Array Value} (K : Cx X cc own Ts tys sd) (is : List Nat) (hC : is.map (fun i => ws[i]?) = wi.map some) (hn : va_nd is = true) (hf : ∀ u, (wo u).map Prod.fst = wi.map Prod.fst) (hfX : ∀ u, (woX u).map Prod.fst = wi.map Prod.fst)
    (hws : ∀ u, updW ws is (wo u) = ws' u) (hwsX : ∀ u, updW ws is (woX u) = wsX u) (hst : ∀ u, (rv u).toList ++ rest = st' u) (hcl : cl + mc = cl') (hsl : sl + ms = sl')
    (run : ∀ (H : Heap) (locs : List Loc) (ls : Array Slot), va_P (gxD X) vwCl ws H → va_D (gxA X) ws → va_S (gxA X) (gxS X).heap H locs → lv_has ls (gxn X) lv → vx_Run X.1 X.2.1 X.2.2.1 X.2.2.2.1 (gxS X) (gxm X) (gxargs X) X.2.2.2.2.2.2.2.1 (gxmeth X) (gxc X) H locs cl sl mc ms (F0 (gxm X) pc ls st0) rest (Qg rv post (xB (gxD X) (va_A wi H.size) wo) (va_A wi H.size) av) (xXC (gxD X) (va_A wi H.size) woX postX) (va_A wi H.size))
    (kk : ∀ u, post u → Gx X cl' sl' (ws' u) lv (pc + 3) (st' u)) (kx : ∀ E u, postX E u → GxX X cl' sl' (wsX u) lv pc rest E) : Gx X cl sl ws lv pc st0 := by
  intro H locs ls hP hD hS hl T hT Y
  have hF := va_free hD hS K.2.2.1 is hC
  have after : ∀ {L : List Loc} {T' t : State}, T'.heap = t.heap → (∀ z ∈ L, va_A wi H.size z.base) → (H.size ≤ t.heap.size ∧ ∀ q : Nat, q < H.size → ¬ va_A wi H.size q → t.heap[q]? = H[q]?) → va_S (gxA X) (gxS X).heap T'.heap (locs ++ L) := fun {L T' t} e1 hL hk => ⟨Nat.le_trans hS.1 (by rw [e1]; exact hk.1), fun q h1 h2 => by rw [e1, hk.2 q (Nat.lt_of_lt_of_le h1 hS.1) (fun z => h2 (hF q z))]; exact hS.2.1 q h1 h2, fun q hq => by
      rcases List.mem_append.mp hq with h | h
      · exact hS.2.2 q h
      · exact hF _ (hL q h)⟩
  rcases run H locs ls hP hD hS hl T hT Y with ⟨v, st₀, t, T', L, h0, X', hL, e1, e2, ⟨⟨u, hv, hp, hb⟩, hz, hk⟩, st⟩ | ⟨q9, st₀, t, T', L, E, ce, h0, X', hL, e1, e2, ⟨u, hp, hb1, hb2, hz, hk⟩, hc1, hc2, hc3, st⟩
  · cases hv
    rw [h0] at hz hk
    obtain ⟨hP2, hD2⟩ := upd_join (H1 := T'.heap) (wn := []) hP hD is hC hn (hf u) (fun q h1 h2 => by rw [e1]; exact hk q h1 h2) hF (by rw [List.append_nil, e1]; exact hb.1) (by rw [List.append_nil]; exact hb.2)
    rw [List.append_nil] at hP2 hD2
    obtain ⟨t2, a1, b1⟩ := kk u hp T'.heap (locs ++ L) ls (by rw [← hws]; exact hP2) (by rw [← hws]; exact hD2) (after e1 hL ⟨hz, hk⟩) hl T' rfl (by rw [← hcl, ← hsl]; exact X')
    exact ⟨t2, st t2 (by rw [← hst] at a1; exact a1), b1⟩
  · rw [h0] at hz hk
    obtain ⟨hP2, hD2⟩ := upd_join (H1 := T'.heap) (wn := []) hP hD is hC hn (hfX u) (fun q h1 h2 => by rw [e1]; exact hk q h1 h2) hF (by rw [List.append_nil, e1]; exact hb1) (by rw [List.append_nil]; exact hb2)
    rw [List.append_nil] at hP2 hD2
    obtain ⟨t2, a1, b1⟩ := kx E u hp T'.heap (locs ++ L) ls q9 ce (by rw [← hwsX]; exact hP2) (by rw [← hwsX]; exact hD2) (after e1 hL ⟨hz, hk⟩) hl (by rw [e1]; exact hc1) hc2 hc3 T' rfl (by rw [← hcl, ← hsl]; exact X')
    exact ⟨t2, st.trans a1, b1⟩
/-- not caught here -/
theorem g_outX {S SX : Type} {rv : S → Option Value} {post : S → Prop} {wo : S → va_W} {woX : SX → va_W} {postX : String → SX → Prop} {mc ms : Nat} {st : List Value} {E9 : String} (K : Cx X cc own Ts tys sd) (E : X.2.2.2.2.2.2.2.2.2.2.1 = xMQX X rv post wo woX postX mc ms) (hex : ∀ x ∈ (gxc X).exceptionTable.toList, False) (u : SX) (hp : postX E9 u) (hwo : woX u = ws) (hc : cl ≤ mc) (hs : sl ≤ ms) : GxX X cl sl ws lv pc st E9 := by
  intro H locs ls q9 ce hP hD hS hl h1 h2 h3
  show vx_W _ _ _ _ _ _ _ _ _ _ H locs cl sl X.2.2.2.2.2.2.2.2.2.2.1 _ _
  rw [E]
  exact vx_out (fun x hx => (hex x hx).elim) K.2.2.2.2 h1 h2 h3 (fun t ht hA => ⟨u, hp, by rw [hwo, ht]; exact hP, by rw [hwo]; exact hD, hS.F ht⟩) hS.2.2 hc hs
section KindsX
variable {y : MethodName} {ws_ ws9 : List Cond} {rm : Room} {st0 : List Value} {S SX : Type} {rv : S → Option Value} {wi : va_W} {wo ws' : S → va_W} {woX wsX : SX → va_W} {st' : S → List Value} {post : S → Prop} {postX : String → SX → Prop} {cl' sl' n maxL index : Nat} {bytes : ByteArray} {ret : Option FieldType} {b : Addr}
theorem g_xcallV (K : Cx X cc own Ts tys sd) (hR : X.2.2.2.1 = R0) (As rest : List Value) {C : String} {T : u_T} {N ci : Nat} {fs : List Value} (q0 : Nat) (he : ws[q0]? = some (b, .inr (ci, fs))) (hc : vwCl[ci]? = some (C, T, N)) (hM : CtrX X.2.1 (gxD X) tys sd y ws_ rm (.ref b :: As) rv wi wo post woX postX) (hG : GoodIn Ts (wsV own index C y ws_)) (hw : ws_ = Cond.code y bytes maxL ret :: ws9) (hy : yOk y n) (hyc : y.cls = C) (hn : As.length = n) (hrm : rmOk R0 rm maxL cl sl = true)
    (hst0 : As.reverse ++ .ref b :: rest = st0) (hcat : (rest.map fun v => v.category).sum ≤ 8) (hd : decode cc pc = .ok (.invokevirtual index, 3)) (is : List Nat) (hC : is.map (fun i => ws[i]?) = wi.map some) (hnd : va_nd is = true) (hf : ∀ u, (wo u).map Prod.fst = wi.map Prod.fst) (hfX : ∀ u, (woX u).map Prod.fst = wi.map Prod.fst)
    (hws : ∀ u, updW ws is (wo u) = ws' u) (hwsX : ∀ u, updW ws is (woX u) = wsX u) (hst : ∀ u, (rv u).toList ++ rest = st' u) (hcl : cl + rm.cells = cl') (hsl : sl + rm.slots = sl') (kk : ∀ u, post u → Gx X cl' sl' (ws' u) lv (pc + 3) (st' u)) (kx : ∀ E u, postX E u → GxX X cl' sl' (wsX u) lv pc rest E) : Gx X cl sl ws lv pc st0 := by
  obtain ⟨hr1, hr2⟩ := rmOk_of hrm
  refine g_callX1 (av := (Value.ref b :: As).toArray) K is hC hnd hf hfX hws hwsX hst hcl hsl (fun H locs ls hP hD hS hl => ?_) kk kx
  have hpre := g_pre (av := .ref b :: As) K hP hD hS is hC hnd
  exact vx_runV (As := As) (rest := rest) K.1 (hM H.size) (cwV n K.1.2.2.2.2 hG hw rfl rfl ⟨hyc, hy⟩ (by rw [hR]; exact hr1)) ⟨hpre.1, va_recv K.2.1 hP hc he, hpre.2⟩ rfl hn hl.1 hst0.symm (lv_room hcat) hd (by rw [hR]; exact hr2)
theorem g_xcallS (K : Cx X cc own Ts tys sd) (hR : X.2.2.2.1 = R0) (As rest : List Value) (hM : CtrX X.2.1 (gxD X) tys sd y ws_ rm As rv wi wo post woX postX) (hG : GoodIn Ts (va_wsS own index y ws_)) (hw : ws_ = Cond.code y bytes maxL ret :: ws9) (hy : yOk y n) (hn : As.length = n) (hrm : rmOk R0 rm maxL cl sl = true)
    (hst0 : As.reverse ++ rest = st0) (hcat : (rest.map fun v => v.category).sum ≤ 8) (hd : decode cc pc = .ok (.invokestatic index, 3)) (is : List Nat) (hC : is.map (fun i => ws[i]?) = wi.map some) (hnd : va_nd is = true) (hf : ∀ u, (wo u).map Prod.fst = wi.map Prod.fst) (hfX : ∀ u, (woX u).map Prod.fst = wi.map Prod.fst)
    (hws : ∀ u, updW ws is (wo u) = ws' u) (hwsX : ∀ u, updW ws is (woX u) = wsX u) (hst : ∀ u, (rv u).toList ++ rest = st' u) (hcl : cl + rm.cells = cl') (hsl : sl + rm.slots = sl') (kk : ∀ u, post u → Gx X cl' sl' (ws' u) lv (pc + 3) (st' u)) (kx : ∀ E u, postX E u → GxX X cl' sl' (wsX u) lv pc rest E) : Gx X cl sl ws lv pc st0 := by
  obtain ⟨hr1, hr2⟩ := rmOk_of hrm
  refine g_callX1 (av := As.toArray) K is hC hnd hf hfX hws hwsX hst hcl hsl (fun H locs ls hP hD hS hl => ?_) kk kx
  have hpre := g_pre (av := As) K hP hD hS is hC hnd
  exact vx_runS (As := As) (rest := rest) K.1 (hM H.size) (va_cwS n K.1.2.2.2.2 hG hw rfl rfl hy (by rw [hR]; exact hr1)) hpre rfl hn hl.1 hst0.symm (lv_room hcat) hd (by rw [hR]; exact hr2)
end KindsX
end GE
theorem lk_ne {x k : Int32} (n : Int) (h : ¬ x = k) (hk : k.toInt = n) : ¬ n = x.toInt := fun e => h (Int32.toInt_inj.mp (by rw [hk, e]))
theorem tst_at : ∀ w ∈ (vx_atS "RecyclingSorter" 133 "java/lang/IndexOutOfBoundsException" ["java/lang/RuntimeException", "java/lang/Exception"]).filter (fun w => !goodWord w), w ∈ xBad "java/lang/IndexOutOfBoundsException" := by decide +kernel
