/-! ===== a body's context in one thing; goals over worlds as lists; rows ===== -/
/-- the statics and constants that the own code reads: enum constants (sd.1), static int arrays (sd.2.1), texts (sd.2.2) -/
abbrev xSd : Type := (Nat → Nat) × (Nat → Nat) × (Nat → Nat) × (Nat → Nat)
def xArrN (i : Nat) : String := match i with | 0 => "LEAST_OF_MACHINE" | 1 => "MOST_OF_MACHINE" | 2 => "LEAST_OF_SETTING" | _ => "MOST_OF_SETTING"
def xArrV (i : Nat) : List Int32 := match i with | 0 => [0, 10, 0, 1, 0] | 1 => [4, 100, 90, 500, 9] | 2 => [1, 0, 10, 1, 0] | _ => [500, 100, 200, 50, 1]
def xFn : List String := ["NO_FAULT", "NO_SUCH_MATERIAL", "OUT_OF_RANGE", "NOT_NOW"]
abbrev xFd : String := "LRecyclingSorter$Fault;"
/-- texts whose signs are read -/
def xTx : List (Nat × String) := [(74, "d=n"), (76, "d@n*n$n"), (78, "n"), (80, "")]
def xTl : List Nat := [3, 7, 1, 0]
def xTb : List (List Int32) := [[100, 61, 110], [100, 64, 110, 42, 110, 36, 110], [110], []]
/-- texts of exceptions -/
def xEx : List (Nat × String) := [(106, "a machine has no such number"), (123, "the flow is out of range"), (131, "there is no such setting"), (145, "the setting is out of range"), (184, "it does not settle soon enough"), (189, "there is no such place"), (194, "a bale has no such number"), (208, "there is no such place in the order"), (213, "there is no such grade"), (235, "there is no such contract"), (237, "a contract has no such number"), (246, "the sale is refused"), (258, "the sale would be refused"), (263, "there is no such level of a report"), (269, "there is no such account"), (281, "there are no bales that are not looped"), (284, "none of the material was fed"), (289, "the input buffer is full"), (308, "a command of the text is refused"), (314, "there is no change to take back"), (324, "nothing was saved"), (338, "there is no such material"), (349, "a number is out of range"), (354, "the sorter can't do this as it is"), (356, "there is no such machine"), (361, "there is no such bale"), (53, "a number of the machine is out of range"), (64, "there is no room for one more machine"), (77, "there are no machines")]
/-- calls of nest mates: (class, place in its pool, method, host) -/
def xNest : List (String × Nat × MethodName × String) := [(RX4, 28, yX0_init, RX8), (RX4, 35, yX1_init, RX8), (RX8, 31, yX5_init, RX8), (RX8, 38, yX7_init, RX8), (RX4, 87, yX8_isMaterial, RX8), (RX4, 97, yX8_isWithin, RX8), (RX4, 151, yX8_perThousand, RX8), (RX4, 148, yX8_gradeOf, RX8), (RX0, 31, yX8_isWithin, RX8), (RX1, 28, yX8_isMaterial, RX8), (RX1, 38, yX8_isWithin, RX8), (RX7, 82, yX8_isWithin, RX8)]
/-- words of the throws: which constructors are declared, which casts hold, which fail -/
def xDecl : List MethodName := [Bundle.initS "java/lang/RuntimeException", Bundle.initS "java/lang/Exception", Bundle.initS "java/lang/Throwable"]
def xSix : List String := ["java/lang/IndexOutOfBoundsException", "java/lang/IllegalArgumentException", "java/lang/IllegalStateException", "java/lang/ArithmeticException", "java/lang/UnsupportedOperationException", "java/util/NoSuchElementException"]
def SFx (sd : xSd) (A : Nat → Prop) (U : State) (H : Heap) : Prop :=
  va_En "RecyclingSorter$Fault" xFd xFn [] sd.1 A U H ∧
  (∀ i, i < 4 → va_Z "RecyclingSorter" (xArrN i) "[I" (.ref (sd.2.1 i)) A U H ∧ va_T .int (sd.2.1 i) 5 (fun j => .int ((xArrV i).getD j 0)) A U H) ∧
  vx_Zq Bundle.tN "UNASSIGNED_STACK" Bundle.steD A U H ∧ vx_Zq Bundle.tN "SUPPRESSED_SENTINEL" Bundle.listD A U H ∧
  vk_S 4 xTl xTb sd.2.2.1 sd.2.2.2 A U H ∧
  (∀ i q, xTx[i]? = some q → vk_R "RecyclingSorter$Text" q.1 q.2 (sd.2.2.1 i) U) ∧
  (∀ q ∈ xEx, ∃ a, vk_R "RecyclingSorter" q.1 q.2 a U) ∧
  (va_Z "java/lang/String" "COMPACT_STRINGS" "Z" (.int 1) A U H ∧ va_Zq "jdk/internal/util/Preconditions" "SIOOBE_FORMATTER" "Ljava/util/function/BiFunction;" A U H ∧ (∀ x ∈ xDecl, va_Nw (.declares x) U) ∧ (∀ q ∈ xSix, va_Nw (.castable q q) U) ∧ (∀ q ∈ xSix, ∀ q' ∈ xSix, q ≠ q' → va_Nc q q' U) ∧ va_AO "RecyclingSorter$Plant" U) ∧
  (∀ q ∈ xNest, va_Nw (.methodLinkNest q.1 q.2.1 q.2.2.1 q.2.2.2) U)
theorem SFx.kept {sd : xSd} {A : Nat → Prop} {U : State} {H H1 : Heap} (h : SFx sd A U H) (hq : ∀ a : Nat, a < H.size → ¬ A a → H1[a]? = H[a]?) : SFx sd A U H1 :=
  ⟨h.1.kept hq, fun i hi => ⟨(h.2.1 i hi).1.kept hq, (h.2.1 i hi).2.kept hq⟩, h.2.2.1.kept hq, h.2.2.2.1.kept hq, h.2.2.2.2.1.kept hq, h.2.2.2.2.2.1, h.2.2.2.2.2.2.1, ⟨h.2.2.2.2.2.2.2.1.1.kept hq, h.2.2.2.2.2.2.2.1.2.1.kept hq, h.2.2.2.2.2.2.2.1.2.2⟩, h.2.2.2.2.2.2.2.2⟩
theorem SFx.narrow {sd : xSd} {A B : Nat → Prop} {U : State} {H : Heap} (h : SFx sd A U H) (hAB : ∀ q, B q → A q) : SFx sd B U H :=
  ⟨h.1.narrow hAB, fun i hi => ⟨(h.2.1 i hi).1.narrow hAB, (h.2.1 i hi).2.narrow hAB⟩, h.2.2.1.narrow hAB, h.2.2.2.1.narrow hAB, h.2.2.2.2.1.narrow hAB, h.2.2.2.2.2.1, h.2.2.2.2.2.2.1, ⟨h.2.2.2.2.2.2.2.1.1.narrow hAB, h.2.2.2.2.2.2.2.1.2.1.narrow hAB, h.2.2.2.2.2.2.2.1.2.2⟩, h.2.2.2.2.2.2.2.2⟩
theorem SFx.warm {sd : xSd} {A : Nat → Prop} {u U : State} {H : Heap} (hW : u.WarmedH U.vm) (h : SFx sd A u H) : SFx sd A U H :=
  have hvm : u.vm.Alike U.vm := hW.alike
  ⟨h.1.moved hvm, fun i hi => ⟨(h.2.1 i hi).1.moved hvm, (h.2.1 i hi).2.moved hvm⟩, h.2.2.1.moved hvm, h.2.2.2.1.moved hvm, h.2.2.2.2.1.moved hvm, fun i q hq => vk_R.warm hW (h.2.2.2.2.2.1 i q hq),
    fun q hq => let ⟨a, ha⟩ := h.2.2.2.2.2.2.1 q hq; ⟨a, vk_R.warm hW ha⟩, ⟨h.2.2.2.2.2.2.2.1.1.moved hvm, h.2.2.2.2.2.2.2.1.2.1.moved hvm, fun x hx => va_Nw.warmD hW (h.2.2.2.2.2.2.2.1.2.2.1 x hx), fun x hx => va_Nw.warmC hW (h.2.2.2.2.2.2.2.1.2.2.2.1 x hx), fun x hx y hy hxy => (h.2.2.2.2.2.2.2.1.2.2.2.2.1 x hx y hy hxy).moved hvm, va_AO.moved hvm h.2.2.2.2.2.2.2.1.2.2.2.2.2⟩, fun q hq => va_Nw.warmM hW (h.2.2.2.2.2.2.2.2 q hq)⟩
theorem SFx.same {sd : xSd} {A : Nat → Prop} {u U : State} {H : Heap} (hv : U.vm = u.vm) (h : SFx sd A u H) : SFx sd A U H :=
  have hvm : u.vm.Alike U.vm := by rw [hv]; exact Vm.Alike.refl _
  ⟨h.1.moved hvm, fun i hi => ⟨(h.2.1 i hi).1.moved hvm, (h.2.1 i hi).2.moved hvm⟩, h.2.2.1.moved hvm, h.2.2.2.1.moved hvm, h.2.2.2.2.1.moved hvm, fun i q hq => vk_R.same hv (h.2.2.2.2.2.1 i q hq),
    fun q hq => let ⟨a, ha⟩ := h.2.2.2.2.2.2.1 q hq; ⟨a, vk_R.same hv ha⟩, ⟨h.2.2.2.2.2.2.2.1.1.moved hvm, h.2.2.2.2.2.2.2.1.2.1.moved hvm, fun x hx => va_Nw.same rfl hv.symm (h.2.2.2.2.2.2.2.1.2.2.1 x hx), fun x hx => va_Nw.same rfl hv.symm (h.2.2.2.2.2.2.2.1.2.2.2.1 x hx), fun x hx y hy hxy => (h.2.2.2.2.2.2.2.1.2.2.2.2.1 x hx y hy hxy).moved hvm, va_AO.moved hvm h.2.2.2.2.2.2.2.1.2.2.2.2.2⟩, fun q hq => va_Nw.same rfl hv.symm (h.2.2.2.2.2.2.2.2 q hq)⟩
/-- the context of a body: program, launch, env, room, start, method, arguments, frames below, the method's data, its code, goal, tables' numbers, free cells, locals -/
abbrev GXt : Type := Program × Launch × Env × Room × State × MethodId × Array Value × List Frame × Method × Code × (State → Prop) × va_G × (Nat → Prop) × Nat
abbrev gxW (X : GXt) (H : Heap) (locs : List Loc) (cl sl : Nat) (g : JFrame) : Prop := W X.1 X.2.1 X.2.2.1 X.2.2.2.1 X.2.2.2.2.1 X.2.2.2.2.2.1 X.2.2.2.2.2.2.1 X.2.2.2.2.2.2.2.1 X.2.2.2.2.2.2.2.2.1 X.2.2.2.2.2.2.2.2.2.1 H locs cl sl X.2.2.2.2.2.2.2.2.2.2.1 g
abbrev gxS (X : GXt) : State := X.2.2.2.2.1
abbrev gxm (X : GXt) : MethodId := X.2.2.2.2.2.1
abbrev gxargs (X : GXt) : Array Value := X.2.2.2.2.2.2.1
abbrev gxmeth (X : GXt) : Method := X.2.2.2.2.2.2.2.2.1
abbrev gxc (X : GXt) : Code := X.2.2.2.2.2.2.2.2.2.1
abbrev gxD (X : GXt) : va_G := X.2.2.2.2.2.2.2.2.2.2.2.1
abbrev gxA (X : GXt) : Nat → Prop := X.2.2.2.2.2.2.2.2.2.2.2.2.1
abbrev gxn (X : GXt) : Nat := X.2.2.2.2.2.2.2.2.2.2.2.2.2
def Gx (X : GXt) (cl sl : Nat) (ws : va_W) (lv : List (Nat × Value)) (pc : Nat) (st : List Value) : Prop :=
  ∀ (H : Heap) (locs : List Loc) (ls : Array Slot), va_P (gxD X) vwCl ws H → va_D (gxA X) ws → va_S (gxA X) (gxS X).heap H locs → lv_has ls (gxn X) lv → gxW X H locs cl sl (F0 (gxm X) pc ls st)
def Cx (X : GXt) (cc : ByteArray) (own : String) (Ts : List Cond) (tys : List (ClassId × FieldType)) (sd : xSd) : Prop :=
  CallFix X.1 (gxm X) (gxc X) cc (gxn X) (gxS X) (gxargs X) Ts own ∧ va_K (gxD X) vwCl tys (gxS X) ∧ (∀ q, (gxS X).heap.size ≤ q → gxA X q) ∧ SFx sd (gxA X) (gxS X) (gxS X).heap ∧ (gxmeth X).locks = false
/-- an answer of any kind -/
def Qg {S : Type} (rv : S → Option Value) (post : S → Prop) (B : S → State → Prop) (A : Nat → Prop) : Array Value → State → Outcome → State → Prop := fun _ st oc t => (∃ u : S, oc = .returned (rv u) ∧ post u ∧ B u t) ∧ va_F A st t
abbrev xB {S : Type} (D : va_G) (A : Nat → Prop) (wo : S → va_W) : S → State → Prop := fun u t => va_P D vwCl (wo u) t.heap ∧ va_D A (wo u)
abbrev xPc (D : va_G) (tys : List (ClassId × FieldType)) (sd : xSd) (av : List Value) (wi : va_W) (sz : Nat) : Array Value → State → Prop := va_Pc av (fun U => U.heap.size = sz ∧ va_P D vwCl wi U.heap ∧ va_K D vwCl tys U ∧ va_D (fun _ => True) wi ∧ SFx sd (va_A wi sz) U U.heap)
/-- a method's contract: from the world wi with the arguments av it returns rv u, for a u with post u, and the world is wo u then -/
def Ctr (l : Launch) (D : va_G) (tys : List (ClassId × FieldType)) (sd : xSd) (y : MethodName) (ws : List Cond) (rm : Room) (av : List Value) {S : Type} (rv : S → Option Value) (wi : va_W) (wo : S → va_W) (post : S → Prop) : Prop :=
  ∀ sz : Nat, Met l y ws rm (xPc D tys sd av wi sz) (Qg rv post (xB D (va_A wi sz) wo) (va_A wi sz)) rm.cells rm.slots (va_A wi sz)
theorem xPc_blind {D : va_G} {tys : List (ClassId × FieldType)} {sd : xSd} {av : List Value} {wi : va_W} {sz : Nat} : FrameBlind (xPc D tys sd av wi sz) :=
  fun a U g mk q => ⟨q.1, q.2.1, q.2.2.1, va_K.moved (u := U) (U := U.calling g mk a) (Vm.Alike.refl U.vm) q.2.2.2.1, q.2.2.2.2.1, SFx.same (u := U) (U := U.calling g mk a) rfl q.2.2.2.2.2⟩
abbrev mkX (p : Program) (l : Launch) (e : Env) (R : Room) (s : State) (m : MethodId) (args : Array Value) (below : List Frame) (meth : Method) (c : Code) (Q : State → Prop) (D : va_G) (A : Nat → Prop) (n : Nat) : GXt := (p, l, e, R, s, m, args, below, meth, c, Q, D, A, n)
set_option maxHeartbeats 1000000 in
theorem Ctr.of {l : Launch} {D : va_G} {tys : List (ClassId × FieldType)} {sd : xSd} {y : MethodName} {ws ws' : List Cond} {rm : Room} {av : List Value} {S : Type} {rv : S → Option Value} {wi : va_W} {wo : S → va_W} {post : S → Prop} {cc : ByteArray} {maxL : Nat} {ret : Option FieldType} {lv0 : List (Nat × Value)}
    (hy : plainName y.cls = true) (hw : ws = Cond.code y cc maxL ret :: ws') (hlen : (lg_sl av).length ≤ maxL) (hlv : lv_args 0 av = lv0)
    (body : ∀ X : GXt, X.2.1 = l → X.2.2.2.1 = rm → (gxmeth X).sig.returnType = ret → (gxmeth X).name = y.name → gxD X = D → X.2.2.2.2.2.2.2.2.2.2.1 = MQ X.2.2.2.2.2.2.2.1 (Qg rv post (xB (gxD X) (gxA X) wo) (gxA X)) (gxargs X) (gxS X) rm.cells rm.slots (gxA X) → gxn X = maxL → Cx X cc y.cls ws tys sd → Gx X 0 0 wi lv0 0 []) : Ctr l D tys sd y ws rm av rv wi wo post := by
  intro sz
  refine Met.ofW (cc := cc) (maxL := maxL) (ret := ret) hy hw ?_
  intro p e s m args below meth c s₁ B hml hv
  obtain ⟨rfl, hsz, hP, hK, hD0, hSF⟩ := hv
  have hts := atoms_spec (ws := ws) B.pre
  have hown : s.vm.findClass y.cls = some m.cls := findClass_of_methodNamed B.named
  subst hsz
  have hD := hD0.self (sz := s.heap.size)
  have hl := lv_entry av (n := maxL) hlen
  rw [hlv] at hl
  rw [lg_entry_eq]
  exact body (mkX p l e rm s m av.toArray below meth c (MQ below (Qg rv post (xB D (va_A wi s.heap.size) wo) (va_A wi s.heap.size)) av.toArray s rm.cells rm.slots (va_A wi s.heap.size)) D (va_A wi s.heap.size) maxL)
    rfl rfl B.returns (name_of_methodNamed B.named B.method).1 rfl rfl rfl ⟨⟨B.exec, B.bytes, hml, hown, hts⟩, hK, fun q h => Or.inr h, hSF, B.notSynchronized⟩ s.heap [] _ hP hD va_S.rf hl
theorem gx_widen {X : GXt} {cl sl k n : Nat} {ws : va_W} {lv : List (Nat × Value)} {pc : Nat} {st : List Value} (h1 : cl ≤ k) (h2 : sl ≤ n) (h : Gx X k n ws lv pc st) : Gx X cl sl ws lv pc st :=
  fun H locs ls hP hD hS hl => W.widen h1 h2 (h H locs ls hP hD hS hl)
theorem gx_locals {X : GXt} {cl sl : Nat} {ws : va_W} {lv lv' : List (Nat × Value)} {pc : Nat} {st : List Value} (ks : List Nat) (hs : lv_pick lv ks = lv') (h : Gx X cl sl ws lv' pc st) : Gx X cl sl ws lv pc st :=
  fun H locs ls hP hD hS hl => h H locs ls hP hD hS (lv_sub hl ks hs)
theorem g_topi {X : GXt} {cl sl : Nat} {ws : va_W} {lv : List (Nat × Value)} {pc : Nat} {rest : List Value} {x : Int32} (k : ∀ y : Int32, y = x → Gx X cl sl ws lv pc (.int y :: rest)) : Gx X cl sl ws lv pc (.int x :: rest) := k x rfl
theorem g_topl {X : GXt} {cl sl : Nat} {ws : va_W} {lv : List (Nat × Value)} {pc : Nat} {rest : List Value} {x : Int64} (k : ∀ y : Int64, y = x → Gx X cl sl ws lv pc (.long y :: rest)) : Gx X cl sl ws lv pc (.long x :: rest) := k x rfl
/-- a bit as an int -/
def bI (b : Bool) : Int32 := if b then 1 else 0
theorem bI_eq0 (b : Bool) : bI b = 0 ↔ b = false := by cases b <;> simp [bI]
theorem bI_narrow (b : Bool) : narrow .boolean (.int (bI b)) = .int (bI b) := by cases b <;> rfl
/-- the world ws with the cells at the places is as w1 says -/
def updW : va_W → List Nat → va_W → va_W
  | ws, i :: is, x :: xs => updW (ws.set i x) is xs
  | ws, _, _ => ws

section GR
variable {X : GXt} {cc : ByteArray} {own : String} {Ts : List Cond} {tys : List (ClassId × FieldType)} {sd : xSd} {cl sl : Nat} {ws : va_W} {lv : List (Nat × Value)} {pc : Nat} {rest : List Value}

theorem g_iconst (K : Cx X cc own Ts tys sd) {n : Int} {v : Int32} (hd : decode cc pc = .ok (.iconst n, 1)) (hv : Int32.ofInt n = v) (k : Gx X cl sl ws lv (pc + 1) (.int v :: rest)) : Gx X cl sl ws lv pc (rest) :=
  fun H locs ls hP hD hS hl => lv_iconst K.1.1 K.1.2.1 hd hv (k H locs ls hP hD hS hl)
theorem g_bipush (K : Cx X cc own Ts tys sd) {n : Int} {v : Int32} (hd : decode cc pc = .ok (.bipush n, 2)) (hv : (Int8.ofInt n).toInt32 = v) (k : Gx X cl sl ws lv (pc + 2) (.int v :: rest)) : Gx X cl sl ws lv pc (rest) :=
  fun H locs ls hP hD hS hl => lv_bipush K.1.1 K.1.2.1 hd hv (k H locs ls hP hD hS hl)
theorem g_sipush (K : Cx X cc own Ts tys sd) {n : Int} {v : Int32} (hd : decode cc pc = .ok (.sipush n, 3)) (hv : (Int16.ofInt n).toInt32 = v) (k : Gx X cl sl ws lv (pc + 3) (.int v :: rest)) : Gx X cl sl ws lv pc (rest) :=
  fun H locs ls hP hD hS hl => lv_sipush K.1.1 K.1.2.1 hd hv (k H locs ls hP hD hS hl)
theorem g_lconst (K : Cx X cc own Ts tys sd) {n : Fin 2} {v : Int64} (hd : decode cc pc = .ok (.lconst n, 1)) (hv : Int64.ofNat (n : Nat) = v) (k : Gx X cl sl ws lv (pc + 1) (.long v :: rest)) : Gx X cl sl ws lv pc (rest) :=
  fun H locs ls hP hD hS hl => lv_lconst K.1.1 K.1.2.1 hd hv (k H locs ls hP hD hS hl)
theorem g_aload_n (K : Cx X cc own Ts tys sd) (j : Nat) {k : Fin 4} {x : Nat} (hd : decode cc pc = .ok (.aload_n k, 1)) (hj : lv[j]? = some ((k : Nat), .ref x)) (kk : Gx X cl sl ws lv (pc + 1) (.ref x :: rest)) : Gx X cl sl ws lv pc (rest) :=
  fun H locs ls hP hD hS hl => lv_aload_n K.1.1 K.1.2.1 hd rfl (lv_at hl j hj) (kk H locs ls hP hD hS hl)
theorem g_aload (K : Cx X cc own Ts tys sd) (j : Nat) {i : Nat} {x : Nat} (hd : decode cc pc = .ok (.aload i, 2)) (hj : lv[j]? = some (i, .ref x)) (kk : Gx X cl sl ws lv (pc + 2) (.ref x :: rest)) : Gx X cl sl ws lv pc (rest) :=
  fun H locs ls hP hD hS hl => lv_aload K.1.1 K.1.2.1 hd (lv_at hl j hj) (kk H locs ls hP hD hS hl)
theorem g_astore_n (K : Cx X cc own Ts tys sd) {k : Fin 4} {i : Nat} {x : Nat} {lv' : List (Nat × Value)} (hd : decode cc pc = .ok (.astore_n k, 1)) (hi : (k : Nat) = i) (hn : i < gxn X) (hl9 : (i, Value.ref x) :: lv.filter (fun q => !(q.1 == i) && !(q.1 + 1 == i && q.2.category == 2)) = lv') (kk : Gx X cl sl ws lv' (pc + 1) (rest)) : Gx X cl sl ws lv pc (.ref x :: rest) :=
  fun H locs ls hP hD hS hl => lv_astore_n K.1.1 K.1.2.1 hd hi hl hn hl9 (fun ls2 hl2 => kk H locs ls2 hP hD hS hl2)
theorem g_astore (K : Cx X cc own Ts tys sd) {i : Nat} {x : Nat} {lv' : List (Nat × Value)} (hd : decode cc pc = .ok (.astore i, 2)) (hn : i < gxn X) (hl9 : (i, Value.ref x) :: lv.filter (fun q => !(q.1 == i) && !(q.1 + 1 == i && q.2.category == 2)) = lv') (kk : Gx X cl sl ws lv' (pc + 2) (rest)) : Gx X cl sl ws lv pc (.ref x :: rest) :=
  fun H locs ls hP hD hS hl => lv_astore K.1.1 K.1.2.1 hd hl hn hl9 (fun ls2 hl2 => kk H locs ls2 hP hD hS hl2)
theorem g_iload_n (K : Cx X cc own Ts tys sd) (j : Nat) {k : Fin 4} {x : Int32} (hd : decode cc pc = .ok (.iload_n k, 1)) (hj : lv[j]? = some ((k : Nat), .int x)) (kk : Gx X cl sl ws lv (pc + 1) (.int x :: rest)) : Gx X cl sl ws lv pc (rest) :=
  fun H locs ls hP hD hS hl => lv_iload_n K.1.1 K.1.2.1 hd rfl (lv_at hl j hj) (kk H locs ls hP hD hS hl)
theorem g_iload (K : Cx X cc own Ts tys sd) (j : Nat) {i : Nat} {x : Int32} (hd : decode cc pc = .ok (.iload i, 2)) (hj : lv[j]? = some (i, .int x)) (kk : Gx X cl sl ws lv (pc + 2) (.int x :: rest)) : Gx X cl sl ws lv pc (rest) :=
  fun H locs ls hP hD hS hl => lv_iload K.1.1 K.1.2.1 hd (lv_at hl j hj) (kk H locs ls hP hD hS hl)
theorem g_istore_n (K : Cx X cc own Ts tys sd) {k : Fin 4} {i : Nat} {x : Int32} {lv' : List (Nat × Value)} (hd : decode cc pc = .ok (.istore_n k, 1)) (hi : (k : Nat) = i) (hn : i < gxn X) (hl9 : (i, Value.int x) :: lv.filter (fun q => !(q.1 == i) && !(q.1 + 1 == i && q.2.category == 2)) = lv') (kk : Gx X cl sl ws lv' (pc + 1) (rest)) : Gx X cl sl ws lv pc (.int x :: rest) :=
  fun H locs ls hP hD hS hl => lv_istore_n K.1.1 K.1.2.1 hd hi hl hn hl9 (fun ls2 hl2 => kk H locs ls2 hP hD hS hl2)
theorem g_istore (K : Cx X cc own Ts tys sd) {i : Nat} {x : Int32} {lv' : List (Nat × Value)} (hd : decode cc pc = .ok (.istore i, 2)) (hn : i < gxn X) (hl9 : (i, Value.int x) :: lv.filter (fun q => !(q.1 == i) && !(q.1 + 1 == i && q.2.category == 2)) = lv') (kk : Gx X cl sl ws lv' (pc + 2) (rest)) : Gx X cl sl ws lv pc (.int x :: rest) :=
  fun H locs ls hP hD hS hl => lv_istore K.1.1 K.1.2.1 hd hl hn hl9 (fun ls2 hl2 => kk H locs ls2 hP hD hS hl2)
theorem g_lload_n (K : Cx X cc own Ts tys sd) (j : Nat) {k : Fin 4} {x : Int64} (hd : decode cc pc = .ok (.lload_n k, 1)) (hj : lv[j]? = some ((k : Nat), .long x)) (kk : Gx X cl sl ws lv (pc + 1) (.long x :: rest)) : Gx X cl sl ws lv pc (rest) :=
  fun H locs ls hP hD hS hl => lv_lload_n K.1.1 K.1.2.1 hd rfl (lv_at hl j hj) (kk H locs ls hP hD hS hl)
theorem g_lload (K : Cx X cc own Ts tys sd) (j : Nat) {i : Nat} {x : Int64} (hd : decode cc pc = .ok (.lload i, 2)) (hj : lv[j]? = some (i, .long x)) (kk : Gx X cl sl ws lv (pc + 2) (.long x :: rest)) : Gx X cl sl ws lv pc (rest) :=
  fun H locs ls hP hD hS hl => lv_lload K.1.1 K.1.2.1 hd (lv_at hl j hj) (kk H locs ls hP hD hS hl)
theorem g_lstore_n (K : Cx X cc own Ts tys sd) {k : Fin 4} {i : Nat} {x : Int64} {lv' : List (Nat × Value)} (hd : decode cc pc = .ok (.lstore_n k, 1)) (hi : (k : Nat) = i) (hn : i + 1 < gxn X) (hl9 : (i, Value.long x) :: lv.filter (fun q => !(q.1 == i) && (!(q.1 == i + 1) && !(q.1 + 1 == i && q.2.category == 2))) = lv') (kk : Gx X cl sl ws lv' (pc + 1) (rest)) : Gx X cl sl ws lv pc (.long x :: rest) :=
  fun H locs ls hP hD hS hl => lv_lstore_n K.1.1 K.1.2.1 hd hi hl hn hl9 (fun ls2 hl2 => kk H locs ls2 hP hD hS hl2)
theorem g_lstore (K : Cx X cc own Ts tys sd) {i : Nat} {x : Int64} {lv' : List (Nat × Value)} (hd : decode cc pc = .ok (.lstore i, 2)) (hn : i + 1 < gxn X) (hl9 : (i, Value.long x) :: lv.filter (fun q => !(q.1 == i) && (!(q.1 == i + 1) && !(q.1 + 1 == i && q.2.category == 2))) = lv') (kk : Gx X cl sl ws lv' (pc + 2) (rest)) : Gx X cl sl ws lv pc (.long x :: rest) :=
  fun H locs ls hP hD hS hl => lv_lstore K.1.1 K.1.2.1 hd hl hn hl9 (fun ls2 hl2 => kk H locs ls2 hP hD hS hl2)
theorem g_dload_n (K : Cx X cc own Ts tys sd) (j : Nat) {k : Fin 4} {x : UInt64} (hd : decode cc pc = .ok (.dload_n k, 1)) (hj : lv[j]? = some ((k : Nat), .double x)) (kk : Gx X cl sl ws lv (pc + 1) (.double x :: rest)) : Gx X cl sl ws lv pc (rest) :=
  fun H locs ls hP hD hS hl => lv_dload_n K.1.1 K.1.2.1 hd rfl (lv_at hl j hj) (kk H locs ls hP hD hS hl)
theorem g_dload (K : Cx X cc own Ts tys sd) (j : Nat) {i : Nat} {x : UInt64} (hd : decode cc pc = .ok (.dload i, 2)) (hj : lv[j]? = some (i, .double x)) (kk : Gx X cl sl ws lv (pc + 2) (.double x :: rest)) : Gx X cl sl ws lv pc (rest) :=
  fun H locs ls hP hD hS hl => lv_dload K.1.1 K.1.2.1 hd (lv_at hl j hj) (kk H locs ls hP hD hS hl)
theorem g_dstore_n (K : Cx X cc own Ts tys sd) {k : Fin 4} {i : Nat} {x : UInt64} {lv' : List (Nat × Value)} (hd : decode cc pc = .ok (.dstore_n k, 1)) (hi : (k : Nat) = i) (hn : i + 1 < gxn X) (hl9 : (i, Value.double x) :: lv.filter (fun q => !(q.1 == i) && (!(q.1 == i + 1) && !(q.1 + 1 == i && q.2.category == 2))) = lv') (kk : Gx X cl sl ws lv' (pc + 1) (rest)) : Gx X cl sl ws lv pc (.double x :: rest) :=
  fun H locs ls hP hD hS hl => lv_dstore_n K.1.1 K.1.2.1 hd hi hl hn hl9 (fun ls2 hl2 => kk H locs ls2 hP hD hS hl2)
theorem g_dstore (K : Cx X cc own Ts tys sd) {i : Nat} {x : UInt64} {lv' : List (Nat × Value)} (hd : decode cc pc = .ok (.dstore i, 2)) (hn : i + 1 < gxn X) (hl9 : (i, Value.double x) :: lv.filter (fun q => !(q.1 == i) && (!(q.1 == i + 1) && !(q.1 + 1 == i && q.2.category == 2))) = lv') (kk : Gx X cl sl ws lv' (pc + 2) (rest)) : Gx X cl sl ws lv pc (.double x :: rest) :=
  fun H locs ls hP hD hS hl => lv_dstore K.1.1 K.1.2.1 hd hl hn hl9 (fun ls2 hl2 => kk H locs ls2 hP hD hS hl2)
theorem g_fload_n (K : Cx X cc own Ts tys sd) (j : Nat) {k : Fin 4} {x : UInt32} (hd : decode cc pc = .ok (.fload_n k, 1)) (hj : lv[j]? = some ((k : Nat), .float x)) (kk : Gx X cl sl ws lv (pc + 1) (.float x :: rest)) : Gx X cl sl ws lv pc (rest) :=
  fun H locs ls hP hD hS hl => lv_fload_n K.1.1 K.1.2.1 hd rfl (lv_at hl j hj) (kk H locs ls hP hD hS hl)
theorem g_fload (K : Cx X cc own Ts tys sd) (j : Nat) {i : Nat} {x : UInt32} (hd : decode cc pc = .ok (.fload i, 2)) (hj : lv[j]? = some (i, .float x)) (kk : Gx X cl sl ws lv (pc + 2) (.float x :: rest)) : Gx X cl sl ws lv pc (rest) :=
  fun H locs ls hP hD hS hl => lv_fload K.1.1 K.1.2.1 hd (lv_at hl j hj) (kk H locs ls hP hD hS hl)
theorem g_fstore_n (K : Cx X cc own Ts tys sd) {k : Fin 4} {i : Nat} {x : UInt32} {lv' : List (Nat × Value)} (hd : decode cc pc = .ok (.fstore_n k, 1)) (hi : (k : Nat) = i) (hn : i < gxn X) (hl9 : (i, Value.float x) :: lv.filter (fun q => !(q.1 == i) && !(q.1 + 1 == i && q.2.category == 2)) = lv') (kk : Gx X cl sl ws lv' (pc + 1) (rest)) : Gx X cl sl ws lv pc (.float x :: rest) :=
  fun H locs ls hP hD hS hl => lv_fstore_n K.1.1 K.1.2.1 hd hi hl hn hl9 (fun ls2 hl2 => kk H locs ls2 hP hD hS hl2)
theorem g_fstore (K : Cx X cc own Ts tys sd) {i : Nat} {x : UInt32} {lv' : List (Nat × Value)} (hd : decode cc pc = .ok (.fstore i, 2)) (hn : i < gxn X) (hl9 : (i, Value.float x) :: lv.filter (fun q => !(q.1 == i) && !(q.1 + 1 == i && q.2.category == 2)) = lv') (kk : Gx X cl sl ws lv' (pc + 2) (rest)) : Gx X cl sl ws lv pc (.float x :: rest) :=
  fun H locs ls hP hD hS hl => lv_fstore K.1.1 K.1.2.1 hd hl hn hl9 (fun ls2 hl2 => kk H locs ls2 hP hD hS hl2)
theorem g_iinc (K : Cx X cc own Ts tys sd) (j : Nat) {i : Nat} {n : Int} {x v : Int32} {lv' : List (Nat × Value)} (hd : decode cc pc = .ok (.iinc i n, 3)) (hk : lv[j]? = some (i, .int x)) (hv : x + Int32.ofInt n = v) (hn : i < gxn X) (hl9 : (i, Value.int v) :: lv.filter (fun q => !(q.1 == i) && !(q.1 + 1 == i && q.2.category == 2)) = lv') (kk : Gx X cl sl ws lv' (pc + 3) (rest)) : Gx X cl sl ws lv pc (rest) :=
  fun H locs ls hP hD hS hl => lv_iinc K.1.1 K.1.2.1 hd hl hk hv hn hl9 (fun ls2 hl2 => kk H locs ls2 hP hD hS hl2)
theorem g_iadd (K : Cx X cc own Ts tys sd) {x y : Int32} (hd : decode cc pc = .ok (.iadd, 1))  (k : Gx X cl sl ws lv (pc + 1) (.int (x + y) :: rest)) : Gx X cl sl ws lv pc (.int y :: .int x :: rest) :=
  fun H locs ls hP hD hS hl => lv_iadd K.1.1 K.1.2.1 hd  (k H locs ls hP hD hS hl)
theorem g_isub (K : Cx X cc own Ts tys sd) {x y : Int32} (hd : decode cc pc = .ok (.isub, 1))  (k : Gx X cl sl ws lv (pc + 1) (.int (x - y) :: rest)) : Gx X cl sl ws lv pc (.int y :: .int x :: rest) :=
  fun H locs ls hP hD hS hl => lv_isub K.1.1 K.1.2.1 hd  (k H locs ls hP hD hS hl)
theorem g_imul (K : Cx X cc own Ts tys sd) {x y : Int32} (hd : decode cc pc = .ok (.imul, 1))  (k : Gx X cl sl ws lv (pc + 1) (.int (x * y) :: rest)) : Gx X cl sl ws lv pc (.int y :: .int x :: rest) :=
  fun H locs ls hP hD hS hl => lv_imul K.1.1 K.1.2.1 hd  (k H locs ls hP hD hS hl)
theorem g_iand (K : Cx X cc own Ts tys sd) {x y : Int32} (hd : decode cc pc = .ok (.iand, 1))  (k : Gx X cl sl ws lv (pc + 1) (.int (x &&& y) :: rest)) : Gx X cl sl ws lv pc (.int y :: .int x :: rest) :=
  fun H locs ls hP hD hS hl => lv_iand K.1.1 K.1.2.1 hd  (k H locs ls hP hD hS hl)
theorem g_ior (K : Cx X cc own Ts tys sd) {x y : Int32} (hd : decode cc pc = .ok (.ior, 1))  (k : Gx X cl sl ws lv (pc + 1) (.int (x ||| y) :: rest)) : Gx X cl sl ws lv pc (.int y :: .int x :: rest) :=
  fun H locs ls hP hD hS hl => lv_ior K.1.1 K.1.2.1 hd  (k H locs ls hP hD hS hl)
theorem g_ishl (K : Cx X cc own Ts tys sd) {x y : Int32} (hd : decode cc pc = .ok (.ishl, 1))  (k : Gx X cl sl ws lv (pc + 1) (.int (x <<< (y &&& 31)) :: rest)) : Gx X cl sl ws lv pc (.int y :: .int x :: rest) :=
  fun H locs ls hP hD hS hl => lv_ishl K.1.1 K.1.2.1 hd  (k H locs ls hP hD hS hl)
theorem g_ishr (K : Cx X cc own Ts tys sd) {x y : Int32} (hd : decode cc pc = .ok (.ishr, 1))  (k : Gx X cl sl ws lv (pc + 1) (.int (x >>> (y &&& 31)) :: rest)) : Gx X cl sl ws lv pc (.int y :: .int x :: rest) :=
  fun H locs ls hP hD hS hl => lv_ishr K.1.1 K.1.2.1 hd  (k H locs ls hP hD hS hl)
theorem g_idiv (K : Cx X cc own Ts tys sd) {x y : Int32} (hd : decode cc pc = .ok (.idiv, 1)) (hne : ¬ y = 0) (k : Gx X cl sl ws lv (pc + 1) (.int (x / y) :: rest)) : Gx X cl sl ws lv pc (.int y :: .int x :: rest) :=
  fun H locs ls hP hD hS hl => lv_idiv K.1.1 K.1.2.1 hd hne (k H locs ls hP hD hS hl)
theorem g_irem (K : Cx X cc own Ts tys sd) {x y : Int32} (hd : decode cc pc = .ok (.irem, 1)) (hne : ¬ y = 0) (k : Gx X cl sl ws lv (pc + 1) (.int (x - x / y * y) :: rest)) : Gx X cl sl ws lv pc (.int y :: .int x :: rest) :=
  fun H locs ls hP hD hS hl => lv_irem K.1.1 K.1.2.1 hd hne (k H locs ls hP hD hS hl)
theorem g_ineg (K : Cx X cc own Ts tys sd) {x : Int32} (hd : decode cc pc = .ok (.ineg, 1))  (k : Gx X cl sl ws lv (pc + 1) (.int (-x) :: rest)) : Gx X cl sl ws lv pc (.int x :: rest) :=
  fun H locs ls hP hD hS hl => lv_ineg K.1.1 K.1.2.1 hd  (k H locs ls hP hD hS hl)
theorem g_iushr (K : Cx X cc own Ts tys sd) {x y v : Int32} (hd : decode cc pc = .ok (.iushr, 1)) (hv : (x.toUInt32 >>> (y.toUInt32 &&& Int32.toUInt32 31)).toInt32 = v) (k : Gx X cl sl ws lv (pc + 1) (.int v :: rest)) : Gx X cl sl ws lv pc (.int y :: .int x :: rest) :=
  fun H locs ls hP hD hS hl => lv_iushr K.1.1 K.1.2.1 hd hv (k H locs ls hP hD hS hl)
theorem g_i2l (K : Cx X cc own Ts tys sd) {x : Int32} {v : Int64} (hd : decode cc pc = .ok (.i2l, 1)) (hv : x.toInt64 = v) (k : Gx X cl sl ws lv (pc + 1) (.long v :: rest)) : Gx X cl sl ws lv pc (.int x :: rest) :=
  fun H locs ls hP hD hS hl => lv_i2l K.1.1 K.1.2.1 hd hv (k H locs ls hP hD hS hl)
theorem g_l2i (K : Cx X cc own Ts tys sd) {x : Int64} {v : Int32} (hd : decode cc pc = .ok (.l2i, 1)) (hv : x.toInt32 = v) (k : Gx X cl sl ws lv (pc + 1) (.int v :: rest)) : Gx X cl sl ws lv pc (.long x :: rest) :=
  fun H locs ls hP hD hS hl => lv_l2i K.1.1 K.1.2.1 hd hv (k H locs ls hP hD hS hl)
theorem g_i2c (K : Cx X cc own Ts tys sd) {x : Int32} {v : Int32} (hd : decode cc pc = .ok (.i2c, 1)) (hv : (x.toUInt32 % 65536).toInt32 = v) (k : Gx X cl sl ws lv (pc + 1) (.int v :: rest)) : Gx X cl sl ws lv pc (.int x :: rest) :=
  fun H locs ls hP hD hS hl => lv_i2c K.1.1 K.1.2.1 hd hv (k H locs ls hP hD hS hl)
theorem g_i2d (K : Cx X cc own Ts tys sd) {x : Int32} (hd : decode cc pc = .ok (.i2d, 1))  (k : Gx X cl sl ws lv (pc + 1) (.double (FP.i2d x) :: rest)) : Gx X cl sl ws lv pc (.int x :: rest) :=
  fun H locs ls hP hD hS hl => lv_i2d K.1.1 K.1.2.1 hd  (k H locs ls hP hD hS hl)
theorem g_i2f (K : Cx X cc own Ts tys sd) {x : Int32} (hd : decode cc pc = .ok (.i2f, 1))  (k : Gx X cl sl ws lv (pc + 1) (.float (FP.i2f x) :: rest)) : Gx X cl sl ws lv pc (.int x :: rest) :=
  fun H locs ls hP hD hS hl => lv_i2f K.1.1 K.1.2.1 hd  (k H locs ls hP hD hS hl)
theorem g_ladd (K : Cx X cc own Ts tys sd) {x y : Int64} (hd : decode cc pc = .ok (.ladd, 1))  (k : Gx X cl sl ws lv (pc + 1) (.long (x + y) :: rest)) : Gx X cl sl ws lv pc (.long y :: .long x :: rest) :=
  fun H locs ls hP hD hS hl => lv_ladd K.1.1 K.1.2.1 hd  (k H locs ls hP hD hS hl)
theorem g_lmul (K : Cx X cc own Ts tys sd) {x y : Int64} (hd : decode cc pc = .ok (.lmul, 1))  (k : Gx X cl sl ws lv (pc + 1) (.long (x * y) :: rest)) : Gx X cl sl ws lv pc (.long y :: .long x :: rest) :=
  fun H locs ls hP hD hS hl => lv_lmul K.1.1 K.1.2.1 hd  (k H locs ls hP hD hS hl)
theorem g_ldiv (K : Cx X cc own Ts tys sd) {x y : Int64} (hd : decode cc pc = .ok (.ldiv, 1)) (hne : ¬ y = 0) (k : Gx X cl sl ws lv (pc + 1) (.long (x / y) :: rest)) : Gx X cl sl ws lv pc (.long y :: .long x :: rest) :=
  fun H locs ls hP hD hS hl => lv_ldiv K.1.1 K.1.2.1 hd hne (k H locs ls hP hD hS hl)
theorem g_lrem (K : Cx X cc own Ts tys sd) {x y : Int64} (hd : decode cc pc = .ok (.lrem, 1)) (hne : ¬ y = 0) (k : Gx X cl sl ws lv (pc + 1) (.long (x - x / y * y) :: rest)) : Gx X cl sl ws lv pc (.long y :: .long x :: rest) :=
  fun H locs ls hP hD hS hl => lv_lrem K.1.1 K.1.2.1 hd hne (k H locs ls hP hD hS hl)
theorem g_ddiv (K : Cx X cc own Ts tys sd) {x y : UInt64} (hd : decode cc pc = .ok (.ddiv, 1)) (hne : vf_n64 (FP.ddiv x y)) (k : Gx X cl sl ws lv (pc + 1) (.double (FP.ddiv x y) :: rest)) : Gx X cl sl ws lv pc (.double y :: .double x :: rest) :=
  fun H locs ls hP hD hS hl => lv_ddiv K.1.1 K.1.2.1 hd hne (k H locs ls hP hD hS hl)
theorem g_fdiv (K : Cx X cc own Ts tys sd) {x y : UInt32} (hd : decode cc pc = .ok (.fdiv, 1)) (hne : vf_n32 (FP.fdiv x y)) (k : Gx X cl sl ws lv (pc + 1) (.float (FP.fdiv x y) :: rest)) : Gx X cl sl ws lv pc (.float y :: .float x :: rest) :=
  fun H locs ls hP hD hS hl => lv_fdiv K.1.1 K.1.2.1 hd hne (k H locs ls hP hD hS hl)
theorem g_f2d (K : Cx X cc own Ts tys sd) {x : UInt32} (hd : decode cc pc = .ok (.f2d, 1)) (hne : vf_n64 (FP.f2d x)) (k : Gx X cl sl ws lv (pc + 1) (.double (FP.f2d x) :: rest)) : Gx X cl sl ws lv pc (.float x :: rest) :=
  fun H locs ls hP hD hS hl => lv_f2d K.1.1 K.1.2.1 hd hne (k H locs ls hP hD hS hl)
theorem g_dcmp (K : Cx X cc own Ts tys sd) {x y : UInt64} {op : CmpOp} (hd : decode cc pc = .ok (.dcmp op, 1))  (k : Gx X cl sl ws lv (pc + 1) (.int (Op.cmpValue (FP.dcmp x y) op) :: rest)) : Gx X cl sl ws lv pc (.double y :: .double x :: rest) :=
  fun H locs ls hP hD hS hl => lv_dcmp K.1.1 K.1.2.1 hd  (k H locs ls hP hD hS hl)
theorem g_fcmp (K : Cx X cc own Ts tys sd) {x y : UInt32} {op : CmpOp} (hd : decode cc pc = .ok (.fcmp op, 1))  (k : Gx X cl sl ws lv (pc + 1) (.int (Op.cmpValue (FP.fcmp x y) op) :: rest)) : Gx X cl sl ws lv pc (.float y :: .float x :: rest) :=
  fun H locs ls hP hD hS hl => lv_fcmp K.1.1 K.1.2.1 hd  (k H locs ls hP hD hS hl)
theorem g_dup (K : Cx X cc own Ts tys sd) {va : Value} (hd : decode cc pc = .ok (.dup, 1)) (hva : va.category = 1) (k : Gx X cl sl ws lv (pc + 1) (va :: va :: rest)) : Gx X cl sl ws lv pc (va :: rest) :=
  fun H locs ls hP hD hS hl => lv_dup K.1.1 K.1.2.1 hd hva (k H locs ls hP hD hS hl)
theorem g_dup2_11 (K : Cx X cc own Ts tys sd) {va vb : Value} (hd : decode cc pc = .ok (.dup2, 1)) (hva : va.category = 1) (hvb : vb.category = 1) (k : Gx X cl sl ws lv (pc + 1) (va :: vb :: va :: vb :: rest)) : Gx X cl sl ws lv pc (va :: vb :: rest) :=
  fun H locs ls hP hD hS hl => lv_dup2_11 K.1.1 K.1.2.1 hd hva hvb (k H locs ls hP hD hS hl)
theorem g_pop (K : Cx X cc own Ts tys sd) {va : Value} (hd : decode cc pc = .ok (.pop, 1)) (hva : va.category = 1) (k : Gx X cl sl ws lv (pc + 1) (rest)) : Gx X cl sl ws lv pc (va :: rest) :=
  fun H locs ls hP hD hS hl => lv_pop K.1.1 K.1.2.1 hd hva (k H locs ls hP hD hS hl)
theorem g_lcmp (K : Cx X cc own Ts tys sd) {x y : Int64} (hd : decode cc pc = .ok (.lcmp, 1)) (k : Gx X cl sl ws lv (pc + 1) (.int (lg_cmp x y) :: rest)) : Gx X cl sl ws lv pc (.long y :: .long x :: rest) :=
  fun H locs ls hP hD hS hl => W.lcmp K.1.1 K.1.2.1 hd (k H locs ls hP hD hS hl)
theorem g_goto (K : Cx X cc own Ts tys sd) {off : Int} {tgt : Nat} (hd : decode cc pc = .ok (.goto off, 3)) (ht : (pc : Int) + off = (tgt : Int)) (k : Gx X cl sl ws lv tgt (rest)) : Gx X cl sl ws lv pc (rest) :=
  fun H locs ls hP hD hS hl => lv_goto K.1.1 K.1.2.1 hd ht (k H locs ls hP hD hS hl)
theorem g_icmp_eq (K : Cx X cc own Ts tys sd) {x y : Int32} {off : Int} {tgt : Nat} (hd : decode cc pc = .ok (.if_icmp .eq off, 3)) (ht : (pc : Int) + off = (tgt : Int)) (kt : x = y → Gx X cl sl ws lv tgt (rest)) (kf : ¬ x = y → Gx X cl sl ws lv (pc + 3) (rest)) : Gx X cl sl ws lv pc (.int y :: .int x :: rest) :=
  fun H locs ls hP hD hS hl => lv_icmp_eq K.1.1 K.1.2.1 hd ht (fun h => kt h H locs ls hP hD hS hl) (fun h => kf h H locs ls hP hD hS hl)
theorem g_icmp_ne (K : Cx X cc own Ts tys sd) {x y : Int32} {off : Int} {tgt : Nat} (hd : decode cc pc = .ok (.if_icmp .ne off, 3)) (ht : (pc : Int) + off = (tgt : Int)) (kt : ¬ x = y → Gx X cl sl ws lv tgt (rest)) (kf : x = y → Gx X cl sl ws lv (pc + 3) (rest)) : Gx X cl sl ws lv pc (.int y :: .int x :: rest) :=
  fun H locs ls hP hD hS hl => lv_icmp_ne K.1.1 K.1.2.1 hd ht (fun h => kt h H locs ls hP hD hS hl) (fun h => kf h H locs ls hP hD hS hl)
theorem g_icmp_lt (K : Cx X cc own Ts tys sd) {x y : Int32} {off : Int} {tgt : Nat} (hd : decode cc pc = .ok (.if_icmp .lt off, 3)) (ht : (pc : Int) + off = (tgt : Int)) (kt : x < y → Gx X cl sl ws lv tgt (rest)) (kf : ¬ x < y → Gx X cl sl ws lv (pc + 3) (rest)) : Gx X cl sl ws lv pc (.int y :: .int x :: rest) :=
  fun H locs ls hP hD hS hl => lv_icmp_lt K.1.1 K.1.2.1 hd ht (fun h => kt h H locs ls hP hD hS hl) (fun h => kf h H locs ls hP hD hS hl)
theorem g_icmp_ge (K : Cx X cc own Ts tys sd) {x y : Int32} {off : Int} {tgt : Nat} (hd : decode cc pc = .ok (.if_icmp .ge off, 3)) (ht : (pc : Int) + off = (tgt : Int)) (kt : y ≤ x → Gx X cl sl ws lv tgt (rest)) (kf : ¬ y ≤ x → Gx X cl sl ws lv (pc + 3) (rest)) : Gx X cl sl ws lv pc (.int y :: .int x :: rest) :=
  fun H locs ls hP hD hS hl => lv_icmp_ge K.1.1 K.1.2.1 hd ht (fun h => kt h H locs ls hP hD hS hl) (fun h => kf h H locs ls hP hD hS hl)
theorem g_icmp_gt (K : Cx X cc own Ts tys sd) {x y : Int32} {off : Int} {tgt : Nat} (hd : decode cc pc = .ok (.if_icmp .gt off, 3)) (ht : (pc : Int) + off = (tgt : Int)) (kt : y < x → Gx X cl sl ws lv tgt (rest)) (kf : ¬ y < x → Gx X cl sl ws lv (pc + 3) (rest)) : Gx X cl sl ws lv pc (.int y :: .int x :: rest) :=
  fun H locs ls hP hD hS hl => lv_icmp_gt K.1.1 K.1.2.1 hd ht (fun h => kt h H locs ls hP hD hS hl) (fun h => kf h H locs ls hP hD hS hl)
theorem g_icmp_le (K : Cx X cc own Ts tys sd) {x y : Int32} {off : Int} {tgt : Nat} (hd : decode cc pc = .ok (.if_icmp .le off, 3)) (ht : (pc : Int) + off = (tgt : Int)) (kt : x ≤ y → Gx X cl sl ws lv tgt (rest)) (kf : ¬ x ≤ y → Gx X cl sl ws lv (pc + 3) (rest)) : Gx X cl sl ws lv pc (.int y :: .int x :: rest) :=
  fun H locs ls hP hD hS hl => lv_icmp_le K.1.1 K.1.2.1 hd ht (fun h => kt h H locs ls hP hD hS hl) (fun h => kf h H locs ls hP hD hS hl)
theorem g_if_eq (K : Cx X cc own Ts tys sd) {x : Int32} {off : Int} {tgt : Nat} (hd : decode cc pc = .ok (.ifCond .eq off, 3)) (ht : (pc : Int) + off = (tgt : Int)) (kt : x = 0 → Gx X cl sl ws lv tgt (rest)) (kf : ¬ x = 0 → Gx X cl sl ws lv (pc + 3) (rest)) : Gx X cl sl ws lv pc (.int x :: rest) :=
  fun H locs ls hP hD hS hl => lv_if_eq K.1.1 K.1.2.1 hd ht (fun h => kt h H locs ls hP hD hS hl) (fun h => kf h H locs ls hP hD hS hl)
theorem g_if_ne (K : Cx X cc own Ts tys sd) {x : Int32} {off : Int} {tgt : Nat} (hd : decode cc pc = .ok (.ifCond .ne off, 3)) (ht : (pc : Int) + off = (tgt : Int)) (kt : ¬ x = 0 → Gx X cl sl ws lv tgt (rest)) (kf : x = 0 → Gx X cl sl ws lv (pc + 3) (rest)) : Gx X cl sl ws lv pc (.int x :: rest) :=
  fun H locs ls hP hD hS hl => lv_if_ne K.1.1 K.1.2.1 hd ht (fun h => kt h H locs ls hP hD hS hl) (fun h => kf h H locs ls hP hD hS hl)
theorem g_if_lt (K : Cx X cc own Ts tys sd) {x : Int32} {off : Int} {tgt : Nat} (hd : decode cc pc = .ok (.ifCond .lt off, 3)) (ht : (pc : Int) + off = (tgt : Int)) (kt : x < 0 → Gx X cl sl ws lv tgt (rest)) (kf : ¬ x < 0 → Gx X cl sl ws lv (pc + 3) (rest)) : Gx X cl sl ws lv pc (.int x :: rest) :=
  fun H locs ls hP hD hS hl => lv_if_lt K.1.1 K.1.2.1 hd ht (fun h => kt h H locs ls hP hD hS hl) (fun h => kf h H locs ls hP hD hS hl)
theorem g_if_ge (K : Cx X cc own Ts tys sd) {x : Int32} {off : Int} {tgt : Nat} (hd : decode cc pc = .ok (.ifCond .ge off, 3)) (ht : (pc : Int) + off = (tgt : Int)) (kt : 0 ≤ x → Gx X cl sl ws lv tgt (rest)) (kf : ¬ 0 ≤ x → Gx X cl sl ws lv (pc + 3) (rest)) : Gx X cl sl ws lv pc (.int x :: rest) :=
  fun H locs ls hP hD hS hl => lv_if_ge K.1.1 K.1.2.1 hd ht (fun h => kt h H locs ls hP hD hS hl) (fun h => kf h H locs ls hP hD hS hl)
theorem g_if_gt (K : Cx X cc own Ts tys sd) {x : Int32} {off : Int} {tgt : Nat} (hd : decode cc pc = .ok (.ifCond .gt off, 3)) (ht : (pc : Int) + off = (tgt : Int)) (kt : 0 < x → Gx X cl sl ws lv tgt (rest)) (kf : ¬ 0 < x → Gx X cl sl ws lv (pc + 3) (rest)) : Gx X cl sl ws lv pc (.int x :: rest) :=
  fun H locs ls hP hD hS hl => lv_if_gt K.1.1 K.1.2.1 hd ht (fun h => kt h H locs ls hP hD hS hl) (fun h => kf h H locs ls hP hD hS hl)
theorem g_if_le (K : Cx X cc own Ts tys sd) {x : Int32} {off : Int} {tgt : Nat} (hd : decode cc pc = .ok (.ifCond .le off, 3)) (ht : (pc : Int) + off = (tgt : Int)) (kt : x ≤ 0 → Gx X cl sl ws lv tgt (rest)) (kf : ¬ x ≤ 0 → Gx X cl sl ws lv (pc + 3) (rest)) : Gx X cl sl ws lv pc (.int x :: rest) :=
  fun H locs ls hP hD hS hl => lv_if_le K.1.1 K.1.2.1 hd ht (fun h => kt h H locs ls hP hD hS hl) (fun h => kf h H locs ls hP hD hS hl)
theorem g_ifb_eq (K : Cx X cc own Ts tys sd) {b : Bool} {off : Int} {tgt : Nat} (hd : decode cc pc = .ok (.ifCond .eq off, 3)) (ht : (pc : Int) + off = (tgt : Int)) (kt : b = false → Gx X cl sl ws lv tgt (rest)) (kf : b = true → Gx X cl sl ws lv (pc + 3) (rest)) : Gx X cl sl ws lv pc (.int (bI b) :: rest) :=
  g_if_eq K hd ht (fun h => kt (by cases b <;> simp_all [bI])) (fun h => kf (by cases b <;> simp_all [bI]))
theorem g_ifb_ne (K : Cx X cc own Ts tys sd) {b : Bool} {off : Int} {tgt : Nat} (hd : decode cc pc = .ok (.ifCond .ne off, 3)) (ht : (pc : Int) + off = (tgt : Int)) (kt : b = true → Gx X cl sl ws lv tgt (rest)) (kf : b = false → Gx X cl sl ws lv (pc + 3) (rest)) : Gx X cl sl ws lv pc (.int (bI b) :: rest) :=
  g_if_ne K hd ht (fun h => kt (by cases b <;> simp_all [bI])) (fun h => kf (by cases b <;> simp_all [bI]))
theorem g_tableIn (K : Cx X cc own Ts tys sd) {dflt lo hi : Int} {offs : Array Int} {len : Nat} {x : Int32} {off : Int} {tgt : Nat} (hd : decode cc pc = .ok (.tableswitch dflt lo hi offs, len)) (h1 : ¬ x.toInt < lo) (h2 : ¬ hi < x.toInt) (ho : offs[(x.toInt - lo).toNat]? = some off) (ht : (pc : Int) + off = (tgt : Int)) (k : Gx X cl sl ws lv tgt (rest)) : Gx X cl sl ws lv pc (.int x :: rest) :=
  fun H locs ls hP hD hS hl => lv_tableIn K.1.1 K.1.2.1 hd h1 h2 ho ht (k H locs ls hP hD hS hl)
theorem g_tableOut (K : Cx X cc own Ts tys sd) {dflt lo hi : Int} {offs : Array Int} {len : Nat} {x : Int32} {tgt : Nat} (hd : decode cc pc = .ok (.tableswitch dflt lo hi offs, len)) (h : x.toInt < lo ∨ hi < x.toInt) (ht : (pc : Int) + dflt = (tgt : Int)) (k : Gx X cl sl ws lv tgt (rest)) : Gx X cl sl ws lv pc (.int x :: rest) :=
  fun H locs ls hP hD hS hl => lv_tableOut K.1.1 K.1.2.1 hd h ht (k H locs ls hP hD hS hl)
theorem g_lookup (K : Cx X cc own Ts tys sd) {dflt : Int} {ps : Array (Int × Int)} {len : Nat} {x : Int32} {off : Int} {tgt : Nat} (hd : decode cc pc = .ok (.lookupswitch dflt ps, len)) (hp : (ps.toList.zip (ps.toList.drop 1)).all (fun (a, next) => a.1 < next.1) = true) (ho : Op.lookupswitch.offset ps.toList dflt x.toInt = off) (ht : (pc : Int) + off = (tgt : Int)) (k : Gx X cl sl ws lv tgt (rest)) : Gx X cl sl ws lv pc (.int x :: rest) :=
  fun H locs ls hP hD hS hl => lv_lookup K.1.1 K.1.2.1 hd hp ho ht (k H locs ls hP hD hS hl)
theorem g_get (K : Cx X cc own Ts tys sd) {C : String} {T : u_T} {N ci index a : Nat} {fs : List Value} {v : Value} (q0 k : Nat) (hin : ∀ w ∈ u_ws C T N, w ∈ Ts) (hlink : Cond.fieldLink own index (T k).1 (T k).2.1 (T k).2.2.1 ∈ Ts) (he : ws[q0]? = some (a, .inr (ci, fs))) (hc : vwCl[ci]? = some (C, T, N)) (hk : k < N) (hv : fs[k]? = some v) (hd : decode cc pc = .ok (.getfield index, 3)) (kk : Gx X cl sl ws lv (pc + 3) (v :: rest)) : Gx X cl sl ws lv pc (.ref a :: rest) :=
  fun H locs ls hP hD hS hl => va_get K.1.1 K.1.2.1 K.1.2.2.2.2 hin K.1.2.2.2.1 K.2.1 hP q0 he hc k hk (K.1.2.2.2.2 _ hlink) (fun _ h9 => h9) hv hd (kk H locs ls hP hD hS hl)
theorem g_put (K : Cx X cc own Ts tys sd) {C : String} {T : u_T} {N ci index a : Nat} {fs : List Value} {v : Value} {ty : FieldType} {ws' : va_W} (q0 k : Nat) (hin : ∀ w ∈ u_ws C T N, w ∈ Ts) (ty0 : Nat → FieldType) (hty : ∀ k, k < N → parseFieldDescriptor (T k).2.2.1 = some (ty0 k)) (hnm : ∀ a, a < N → ∀ b, b < N → a ≠ b → (T a).2.1 ≠ (T b).2.1) (hlink : Cond.fieldLink own index (T k).1 (T k).2.1 (T k).2.2.1 ∈ Ts) (he : ws[q0]? = some (a, .inr (ci, fs))) (hc : vwCl[ci]? = some (C, T, N)) (hk : k < N) (hfin : (T k).2.2.2 = false) (hdt : parseFieldDescriptor (T k).2.2.1 = some ty) (hn : narrow ty v = v) (hfit : fits ty v = true) (hlen : k < fs.length) (hw : ws.set q0 (a, .inr (ci, fs.set k v)) = ws') (hd : decode cc pc = .ok (.putfield index, 3)) (kk : Gx X cl sl ws' lv (pc + 3) (rest)) : Gx X cl sl ws lv pc (v :: .ref a :: rest) :=
  fun H locs ls hP hD hS hl => va_put K.1.1 K.1.2.1 K.1.2.2.2.2 hin ty0 hty hnm K.1.2.2.2.1 K.2.1 hP hD hS q0 he hc k hk (K.1.2.2.2.2 _ hlink) (fun _ h9 => h9) hfin hdt hn hfit hlen hd (fun H1 locs1 hP1 hD1 hS1 => kk H1 locs1 ls (hw ▸ hP1) (hw ▸ hD1) hS1 hl)
theorem g_putF (K : Cx X cc own Ts tys sd) (hin2 : (gxmeth X).name = "<init>") {T : u_T} {N ci index a : Nat} {fs : List Value} {v : Value} {ty : FieldType} {ws' : va_W} (q0 k : Nat) (hin : ∀ w ∈ u_ws own T N, w ∈ Ts) (ty0 : Nat → FieldType) (hty : ∀ k, k < N → parseFieldDescriptor (T k).2.2.1 = some (ty0 k)) (hnm : ∀ a, a < N → ∀ b, b < N → a ≠ b → (T a).2.1 ≠ (T b).2.1) (hlink : Cond.fieldLink own index (T k).1 (T k).2.1 (T k).2.2.1 ∈ Ts) (he : ws[q0]? = some (a, .inr (ci, fs))) (hc : vwCl[ci]? = some (own, T, N)) (hk : k < N) (hfin : (T k).2.2.2 = true) (hdecl : (T k).1 = own) (hdt : parseFieldDescriptor (T k).2.2.1 = some ty) (hn : narrow ty v = v) (hfit : fits ty v = true) (hlen : k < fs.length) (hw : ws.set q0 (a, .inr (ci, fs.set k v)) = ws') (hd : decode cc pc = .ok (.putfield index, 3)) (kk : Gx X cl sl ws' lv (pc + 3) (rest)) : Gx X cl sl ws lv pc (v :: .ref a :: rest) :=
  fun H locs ls hP hD hS hl => va_putF K.1.1 K.1.2.1 K.1.2.2.2.2 hin ty0 hty hnm K.1.2.2.2.1 K.2.1 hP hD hS q0 he hc k hk (K.1.2.2.2.2 _ hlink) (fun _ h9 => h9) hfin hin2 hdecl hdt hn hfit hlen hd (fun H1 locs1 hP1 hD1 hS1 => kk H1 locs1 ls (hw ▸ hP1) (hw ▸ hD1) hS1 hl)
theorem g_iald (K : Cx X cc own Ts tys sd) {cA : ClassId} {a n : Nat} {f : Nat → Int32} {i : Int32} (q0 t0 : Nat) (ha : ws[q0]? = some (a, .inl (cA, n, .inl f))) (ht : tys[t0]? = some (cA, .int)) (hin : vp_in i n) (hd : decode cc pc = .ok (.iaload, 1)) (kk : Gx X cl sl ws lv (pc + 1) (.int (f i.toNatClampNeg) :: rest)) : Gx X cl sl ws lv pc (.int i :: .ref a :: rest) :=
  fun H locs ls hP hD hS hl => va_iald K.1.1 K.1.2.1 K.2.1 hP q0 t0 ha ht hin hd (kk H locs ls hP hD hS hl)
theorem g_cald (K : Cx X cc own Ts tys sd) {cA : ClassId} {a n : Nat} {f : Nat → Int32} {i : Int32} (q0 t0 : Nat) (ha : ws[q0]? = some (a, .inl (cA, n, .inl f))) (ht : tys[t0]? = some (cA, .char)) (hin : vp_in i n) (hd : decode cc pc = .ok (.caload, 1)) (kk : Gx X cl sl ws lv (pc + 1) (.int (f i.toNatClampNeg) :: rest)) : Gx X cl sl ws lv pc (.int i :: .ref a :: rest) :=
  fun H locs ls hP hD hS hl => va_cald K.1.1 K.1.2.1 K.2.1 hP q0 t0 ha ht hin hd (kk H locs ls hP hD hS hl)
theorem g_lald (K : Cx X cc own Ts tys sd) {cA : ClassId} {a n : Nat} {f : Nat → Int64} {i : Int32} (q0 t0 : Nat) (ha : ws[q0]? = some (a, .inl (cA, n, .inr (.inl f)))) (ht : tys[t0]? = some (cA, .long)) (hin : vp_in i n) (hd : decode cc pc = .ok (.laload, 1)) (kk : Gx X cl sl ws lv (pc + 1) (.long (f i.toNatClampNeg) :: rest)) : Gx X cl sl ws lv pc (.int i :: .ref a :: rest) :=
  fun H locs ls hP hD hS hl => va_lald K.1.1 K.1.2.1 K.2.1 hP q0 t0 ha ht hin hd (kk H locs ls hP hD hS hl)
theorem g_dald (K : Cx X cc own Ts tys sd) {cA : ClassId} {a n : Nat} {f : Nat → UInt64} {i : Int32} (q0 t0 : Nat) (ha : ws[q0]? = some (a, .inl (cA, n, .inr (.inr (.inr (.inl f)))))) (ht : tys[t0]? = some (cA, .double)) (hin : vp_in i n) (hd : decode cc pc = .ok (.daload, 1)) (kk : Gx X cl sl ws lv (pc + 1) (.double (f i.toNatClampNeg) :: rest)) : Gx X cl sl ws lv pc (.int i :: .ref a :: rest) :=
  fun H locs ls hP hD hS hl => va_dald K.1.1 K.1.2.1 K.2.1 hP q0 t0 ha ht hin hd (kk H locs ls hP hD hS hl)
theorem g_iast (K : Cx X cc own Ts tys sd) {cA : ClassId} {a n : Nat} {f : Nat → Int32} {i : Int32} {x : Int32} {ws' : va_W} (q0 t0 : Nat) (ha : ws[q0]? = some (a, .inl (cA, n, .inl f))) (ht : tys[t0]? = some (cA, .int)) (hin : vp_in i n) (hw : ws.set q0 (a, .inl (cA, n, .inl (upd f i.toNatClampNeg x))) = ws') (hd : decode cc pc = .ok (.iastore, 1)) (kk : Gx X cl sl ws' lv (pc + 1) (rest)) : Gx X cl sl ws lv pc (.int x :: .int i :: .ref a :: rest) :=
  fun H locs ls hP hD hS hl => va_iast K.1.1 K.1.2.1 K.2.1 hP hD hS q0 t0 ha ht hin hd (fun H1 locs1 hP1 hD1 hS1 => kk H1 locs1 ls (hw ▸ hP1) (hw ▸ hD1) hS1 hl)
theorem g_cast (K : Cx X cc own Ts tys sd) {cA : ClassId} {a n : Nat} {f : Nat → Int32} {i : Int32} {x : Int32} {ws' : va_W} (q0 t0 : Nat) (ha : ws[q0]? = some (a, .inl (cA, n, .inl f))) (ht : tys[t0]? = some (cA, .char)) (hin : vp_in i n) (hw : ws.set q0 (a, .inl (cA, n, .inl (upd f i.toNatClampNeg (vp_nar .char x)))) = ws') (hd : decode cc pc = .ok (.castore, 1)) (kk : Gx X cl sl ws' lv (pc + 1) (rest)) : Gx X cl sl ws lv pc (.int x :: .int i :: .ref a :: rest) :=
  fun H locs ls hP hD hS hl => va_cast K.1.1 K.1.2.1 K.2.1 hP hD hS q0 t0 ha ht hin hd (fun H1 locs1 hP1 hD1 hS1 => kk H1 locs1 ls (hw ▸ hP1) (hw ▸ hD1) hS1 hl)
theorem g_last (K : Cx X cc own Ts tys sd) {cA : ClassId} {a n : Nat} {f : Nat → Int64} {i : Int32} {x : Int64} {ws' : va_W} (q0 t0 : Nat) (ha : ws[q0]? = some (a, .inl (cA, n, .inr (.inl f)))) (ht : tys[t0]? = some (cA, .long)) (hin : vp_in i n) (hw : ws.set q0 (a, .inl (cA, n, .inr (.inl (vp_updL f i.toNatClampNeg x)))) = ws') (hd : decode cc pc = .ok (.lastore, 1)) (kk : Gx X cl sl ws' lv (pc + 1) (rest)) : Gx X cl sl ws lv pc (.long x :: .int i :: .ref a :: rest) :=
  fun H locs ls hP hD hS hl => va_last K.1.1 K.1.2.1 K.2.1 hP hD hS q0 t0 ha ht hin hd (fun H1 locs1 hP1 hD1 hS1 => kk H1 locs1 ls (hw ▸ hP1) (hw ▸ hD1) hS1 hl)
theorem g_dast (K : Cx X cc own Ts tys sd) {cA : ClassId} {a n : Nat} {f : Nat → UInt64} {i : Int32} {x : UInt64} {ws' : va_W} (q0 t0 : Nat) (ha : ws[q0]? = some (a, .inl (cA, n, .inr (.inr (.inr (.inl f)))))) (ht : tys[t0]? = some (cA, .double)) (hin : vp_in i n) (hw : ws.set q0 (a, .inl (cA, n, .inr (.inr (.inr (.inl (vf_upd f i.toNatClampNeg x)))))) = ws') (hd : decode cc pc = .ok (.dastore, 1)) (kk : Gx X cl sl ws' lv (pc + 1) (rest)) : Gx X cl sl ws lv pc (.double x :: .int i :: .ref a :: rest) :=
  fun H locs ls hP hD hS hl => va_dast K.1.1 K.1.2.1 K.2.1 hP hD hS q0 t0 ha ht hin hd (fun H1 locs1 hP1 hD1 hS1 => kk H1 locs1 ls (hw ▸ hP1) (hw ▸ hD1) hS1 hl)
theorem g_alen (K : Cx X cc own Ts tys sd) {cA : ClassId} {a : Nat} {x : vp_A} {ty : FieldType} {v : Int32} (q0 t0 : Nat) (ha : ws[q0]? = some (a, .inl (cA, x))) (ht : tys[t0]? = some (cA, ty)) (hv : Int32.ofNat x.1 = v) (hd : decode cc pc = .ok (.arraylength, 1)) (kk : Gx X cl sl ws lv (pc + 1) (.int v :: rest)) : Gx X cl sl ws lv pc (.ref a :: rest) :=
  fun H locs ls hP hD hS hl => va_alen K.1.1 K.1.2.1 K.2.1 hP q0 t0 ha ht hv hd (kk H locs ls hP hD hS hl)
end GR
/-! ===== worlds behind a call ===== -/
theorem updW_get : ∀ (is : List Nat) (w1 ws : va_W) (k : Nat) (q : Nat × va_E), va_nd is = true → is.length = w1.length → (updW ws is w1)[k]? = some q → (∃ j : Nat, is[j]? = some k ∧ w1[j]? = some q) ∨ (k ∉ is ∧ ws[k]? = some q) := by
  intro is
  induction is with
  | nil => intro w1 ws k q _ _ h; exact Or.inr ⟨List.not_mem_nil, by simpa [updW] using h⟩
  | cons i is ih =>
    intro w1 ws k q hn hlen h
    cases w1 with
    | nil => simp at hlen
    | cons x xs =>
      simp only [va_nd, Bool.and_eq_true, decide_eq_true_eq] at hn
      have h' : (updW (ws.set i x) is xs)[k]? = some q := h
      rcases ih xs (ws.set i x) k q hn.2 (by simpa using hlen) h' with ⟨j, h1, h2⟩ | ⟨h1, h2⟩
      · exact Or.inl ⟨j + 1, by simpa using h1, by simpa using h2⟩
      · by_cases hki : i = k
        · subst hki
          refine Or.inl ⟨0, rfl, ?_⟩
          rw [List.getElem?_set] at h2
          simp only [if_true] at h2
          split at h2
          · exact h2
          · cases h2
        · rw [List.getElem?_set, if_neg hki] at h2
          exact Or.inr ⟨fun hm => (List.mem_cons.mp hm).elim (fun e => hki e.symm) h1, h2⟩
theorem map_at {is : List Nat} {ws w : va_W} (hs : is.map (fun i => ws[i]?) = w.map some) (k : Nat) (q : Nat × va_E) (hq : w[k]? = some q) : ∃ i, is[k]? = some i ∧ ws[i]? = some q := by
  have h1 : (is.map (fun i => ws[i]?))[k]? = some (some q) := by rw [hs, List.getElem?_map, hq]; rfl
  rw [List.getElem?_map] at h1
  cases hi : is[k]? with
  | none => rw [hi] at h1; cases h1
  | some i => rw [hi] at h1; exact ⟨i, rfl, Option.some.inj h1⟩
theorem fst_at {w1 wc : va_W} (hf : w1.map Prod.fst = wc.map Prod.fst) {k : Nat} {q : Nat × va_E} (h : w1[k]? = some q) : ∃ q', wc[k]? = some q' ∧ q'.1 = q.1 := by
  have h1 : (w1.map Prod.fst)[k]? = some q.1 := by rw [List.getElem?_map, h]; rfl
  rw [hf, List.getElem?_map] at h1
  cases hi : wc[k]? with
  | none => rw [hi] at h1; cases h1
  | some q' => rw [hi] at h1; exact ⟨q', rfl, Option.some.inj h1⟩
theorem updW_adr {is : List Nat} {w1 wc ws : va_W} (hn : va_nd is = true) (hC : is.map (fun i => ws[i]?) = wc.map some) (hf : w1.map Prod.fst = wc.map Prod.fst) {k : Nat} {q : Nat × va_E} (h : (updW ws is w1)[k]? = some q) : ∃ q', ws[k]? = some q' ∧ q'.1 = q.1 := by
  have hlen : is.length = w1.length := by
    have e1 := congrArg List.length hC
    have e2 := congrArg List.length hf
    simp only [List.length_map] at e1 e2
    omega
  rcases updW_get is w1 ws k q hn hlen h with ⟨j, h1, h2⟩ | ⟨-, h2⟩
  · obtain ⟨q', h3, h4⟩ := fst_at hf h2
    obtain ⟨i, h5, h6⟩ := map_at hC j q' h3
    rw [h1] at h5
    cases h5
    exact ⟨q', h6, h4⟩
  · exact ⟨q, h2, rfl⟩
set_option maxHeartbeats 1000000 in
theorem upd_join {A0 : Nat → Prop} {D : va_G} {cl : List vw_C} {ws wc w1 wn : va_W} {H H1 : Heap} (hP : va_P D cl ws H) (hD : va_D A0 ws) (is : List Nat) (hC : is.map (fun i => ws[i]?) = wc.map some) (hn : va_nd is = true) (hf : w1.map Prod.fst = wc.map Prod.fst)
    (hk : ∀ q : Nat, q < H.size → ¬ va_A wc H.size q → H1[q]? = H[q]?) (hF : ∀ q, va_A wc H.size q → A0 q) (hP1 : va_P D cl (w1 ++ wn) H1) (hD1 : va_D (va_A wc H.size) (w1 ++ wn)) : va_P D cl (updW ws is w1 ++ wn) H1 ∧ va_D A0 (updW ws is w1 ++ wn) := by
  have hlen : is.length = w1.length := by
    have e1 := congrArg List.length hC
    have e2 := congrArg List.length hf
    simp only [List.length_map] at e1 e2
    omega
  have inl : ∀ (k : Nat) (q : Nat × va_E), w1[k]? = some q → (w1 ++ wn)[k]? = some q := fun k q h => by
    rw [List.getElem?_append_left (List.getElem?_eq_some_iff.mp h).1]; exact h
  have inr : ∀ (k : Nat) (q : Nat × va_E), wn[k]? = some q → (w1 ++ wn)[w1.length + k]? = some q := fun k q h => by
    rw [List.getElem?_append_right (by omega)]
    have e : w1.length + k - w1.length = k := by omega
    rw [e]; exact h
  have adr : ∀ (k : Nat) (q : Nat × va_E), (updW ws is w1)[k]? = some q → ∃ q', ws[k]? = some q' ∧ q'.1 = q.1 := fun k q h => updW_adr hn hC hf h
  refine ⟨va_P.app (fun k q h => ?_) (fun k q h => hP1 _ q (inr k q h)), va_D.app ⟨fun i j x y hx hy hxy => ?_, fun k q h => ?_⟩ ⟨fun i j x y hx hy hxy => ?_, fun k q h => hF _ (hD1.2 _ q (inr k q h))⟩ (fun i j x y hx hy hxy => ?_)⟩
  · rcases updW_get is w1 ws k q hn hlen h with ⟨j, h1, h2⟩ | ⟨h1, h2⟩
    · exact hP1 j q (inl j q h2)
    · have hl := (hP k q h2).lt
      refine (hP k q h2).kept (hk q.1 hl fun hA => ?_)
      rcases hA with ⟨k2, e, h3⟩ | h3
      · obtain ⟨i, h4, h5⟩ := map_at hC k2 _ h3
        have := hD.1 k i q (q.1, e) h2 h5 rfl
        subst this
        exact h1 (List.mem_of_getElem? h4)
      · omega
  · obtain ⟨x', h1, h2⟩ := adr i x hx
    obtain ⟨y', h3, h4⟩ := adr j y hy
    exact hD.1 i j x' y' h1 h3 (by rw [h2, h4, hxy])
  · obtain ⟨q', h1, h2⟩ := adr k q h
    rw [← h2]
    exact hD.2 k q' h1
  · have := hD1.1 _ _ x y (inr i x hx) (inr j y hy) hxy
    omega
  · obtain ⟨x', h1, h2⟩ := adr i x hx
    have hl := (hP i x' h1).lt
    rcases hD1.2 _ y (inr j y hy) with ⟨k2, e, h3⟩ | h3
    · obtain ⟨q', h4, h5⟩ := fst_at hf.symm h3
      have := hD1.1 _ _ q' y (inl k2 q' h4) (inr j y hy) h5
      have h6 := (List.getElem?_eq_some_iff.mp h4).1
      omega
    · have e1 : x.1 = y.1 := hxy
      have e2 : x'.1 = x.1 := h2
      omega
section GC
variable {X : GXt} {cc : ByteArray} {own : String} {Ts : List Cond} {tys : List (ClassId × FieldType)} {sd : xSd} {cl sl : Nat} {ws : va_W} {lv : List (Nat × Value)} {pc : Nat} {rest : List Value}
theorem g_pre {H : Heap} {locs : List Loc} {av : List Value} {wi : va_W} (K : Cx X cc own Ts tys sd) (hP : va_P (gxD X) vwCl ws H) (hD : va_D (gxA X) ws) (hS : va_S (gxA X) (gxS X).heap H locs) (is : List Nat) (hC : is.map (fun i => ws[i]?) = wi.map some) (hn : va_nd is = true) : PreS (gxS X) H (xPc (gxD X) tys sd av wi H.size) av :=
  ⟨xPc_blind, fun U hU hW => ⟨rfl, by rw [hU], by rw [hU]; exact fun k q hq => (let ⟨i, _, hi⟩ := map_at hC k q hq; hP i q hi), va_K.moved hW.alike K.2.1, (hD.sub is hn hC).weaken (fun _ _ _ _ => trivial), by rw [hU]; exact SFx.warm hW (((K.2.2.2.1).kept hS.2.1).narrow (va_free hD hS K.2.2.1 is hC))⟩⟩
set_option maxHeartbeats 1000000 in
theorem g_callX0 {S : Type} {rv : S → Option Value} {wi : va_W} {wo w1 wn ws' : S → va_W} {st' : S → List Value} {post : S → Prop} {mc ms cl' sl' : Nat} {st0 : List Value} {av : Array Value} (K : Cx X cc own Ts tys sd) (is : List Nat) (hC : is.map (fun i => ws[i]?) = wi.map some) (hn : va_nd is = true) (hwo : ∀ u, w1 u ++ wn u = wo u) (hf : ∀ u, (w1 u).map Prod.fst = wi.map Prod.fst)
    (hws : ∀ u, updW ws is (w1 u) ++ wn u = ws' u) (hst : ∀ u, (rv u).toList ++ rest = st' u) (hcl : cl + mc = cl') (hsl : sl + ms = sl')
    (run : ∀ (H : Heap) (locs : List Loc) (ls : Array Slot), va_P (gxD X) vwCl ws H → va_D (gxA X) ws → va_S (gxA X) (gxS X).heap H locs → lv_has ls (gxn X) lv → va_Run X.1 X.2.1 X.2.2.1 X.2.2.2.1 (gxS X) (gxm X) (gxargs X) X.2.2.2.2.2.2.2.1 (gxmeth X) (gxc X) H locs cl sl mc ms (F0 (gxm X) pc ls st0) rest (Qg rv post (xB (gxD X) (va_A wi H.size) wo) (va_A wi H.size) av) (va_A wi H.size))
    (kk : ∀ u, post u → Gx X cl' sl' (ws' u) lv (pc + 3) (st' u)) : Gx X cl sl ws lv pc st0 := by
  intro H locs ls hP hD hS hl T hT Y
  obtain ⟨v, st₀, t, T', L, h0, X', hL, e1, e2, ⟨⟨u, hv, hp, hb⟩, hz, hk⟩, st⟩ := run H locs ls hP hD hS hl T hT Y
  cases hv
  rw [h0] at hz hk
  have hF := va_free hD hS K.2.2.1 is hC
  have hB1 : va_P (gxD X) vwCl (w1 u ++ wn u) T'.heap := by rw [hwo, e1]; exact hb.1
  have hB2 : va_D (va_A wi H.size) (w1 u ++ wn u) := by rw [hwo]; exact hb.2
  obtain ⟨hP2, hD2⟩ := upd_join hP hD is hC hn (hf u) (fun q h1 h2 => by rw [e1]; exact hk q h1 h2) hF hB1 hB2
  have hS2 : va_S (gxA X) (gxS X).heap T'.heap (locs ++ L) := ⟨Nat.le_trans hS.1 (by rw [e1]; exact hz), fun q h1 h2 => by rw [e1, hk q (Nat.lt_of_lt_of_le h1 hS.1) (fun z => h2 (hF q z))]; exact hS.2.1 q h1 h2, fun q hq => by
      rcases List.mem_append.mp hq with h | h
      · exact hS.2.2 q h
      · exact hF _ (hL q h)⟩
  obtain ⟨t2, a1, b1⟩ := kk u hp T'.heap (locs ++ L) ls (by rw [← hws]; exact hP2) (by rw [← hws]; exact hD2) hS2 hl T' rfl (by rw [← hcl, ← hsl]; exact X')
  exact ⟨t2, st t2 (by rw [← hst] at a1; exact a1), b1⟩
theorem updW_self : ∀ (is : List Nat) (wi ws : va_W), is.map (fun i => ws[i]?) = wi.map some → updW ws is wi = ws := by
  intro is
  induction is with
  | nil => intro wi ws _; cases wi <;> rfl
  | cons i is ih =>
    intro wi ws h
    cases wi with
    | nil => simp at h
    | cons x xs =>
      simp only [List.map_cons, List.cons.injEq] at h
      have e : ws.set i x = ws := by
        obtain ⟨h1, h2⟩ := List.getElem?_eq_some_iff.mp h.1
        rw [← h2]
        exact List.set_getElem_self h1
      show updW (ws.set i x) is xs = ws
      rw [e]
      exact ih xs ws h.2
/-- room of a call: frames, locals, cells, slots -/
def rmOk (R : Room) (rm : Room) (maxL cl sl : Nat) : Bool := decide (rm.frames + 1 ≤ R.frames) && (decide (8 + (maxL + 11) + rm.locals ≤ R.locals) && (decide (cl + rm.cells ≤ R.cells) && decide (sl + rm.slots ≤ R.slots)))
theorem rmOk_of {R rm : Room} {maxL cl sl : Nat} (h : rmOk R rm maxL cl sl = true) : (rm.frames + 1 ≤ R.frames ∧ 8 + (maxL + 11) + rm.locals ≤ R.locals) ∧ cl + rm.cells ≤ R.cells ∧ sl + rm.slots ≤ R.slots := by
  simp only [rmOk, Bool.and_eq_true, decide_eq_true_eq] at h
  exact ⟨⟨h.1, h.2.1⟩, h.2.2.1, h.2.2.2⟩
abbrev yOk (y : MethodName) (n : Nat) : Prop := y.cls ≠ "java/lang/invoke/MethodHandle" ∧ y.cls ≠ "java/lang/invoke/VarHandle" ∧ (parseMethodDescriptor y.desc).map (fun d => d.parameters.length) = some n
section Kinds
variable {R0 : Room} {y : MethodName} {ws_ ws9 : List Cond} {rm : Room} {As st0 : List Value} {S : Type} {rv : S → Option Value} {wi : va_W} {wo w1 wn ws' : S → va_W} {st' : S → List Value} {post : S → Prop} {cl' sl' n maxL index : Nat} {bytes : ByteArray} {ret : Option FieldType} {b : Addr}
theorem g_callV0 (K : Cx X cc own Ts tys sd) (hR : X.2.2.2.1 = R0) {C : String} {T : u_T} {N ci : Nat} {fs : List Value} (q0 : Nat) (he : ws[q0]? = some (b, .inr (ci, fs))) (hc : vwCl[ci]? = some (C, T, N)) (hM : Ctr X.2.1 (gxD X) tys sd y ws_ rm (.ref b :: As) rv wi wo post) (hG : GoodIn Ts (wsV own index C y ws_)) (hw : ws_ = Cond.code y bytes maxL ret :: ws9) (hy : yOk y n) (hyc : y.cls = C) (hn : As.length = n) (hrm : rmOk R0 rm maxL cl sl = true)
    (hst0 : As.reverse ++ .ref b :: rest = st0) (hcat : (rest.map fun v => v.category).sum ≤ 8) (hd : decode cc pc = .ok (.invokevirtual index, 3)) (is : List Nat) (hC : is.map (fun i => ws[i]?) = wi.map some) (hnd : va_nd is = true) (hwo : ∀ u, w1 u ++ wn u = wo u) (hf : ∀ u, (w1 u).map Prod.fst = wi.map Prod.fst)
    (hws : ∀ u, updW ws is (w1 u) ++ wn u = ws' u) (hst : ∀ u, (rv u).toList ++ rest = st' u) (hcl : cl + rm.cells = cl') (hsl : sl + rm.slots = sl') (kk : ∀ u, post u → Gx X cl' sl' (ws' u) lv (pc + 3) (st' u)) : Gx X cl sl ws lv pc st0 := by
  obtain ⟨hr1, hr2⟩ := rmOk_of hrm
  refine g_callX0 (av := (Value.ref b :: As).toArray) K is hC hnd hwo hf hws hst hcl hsl (fun H locs ls hP hD hS hl => ?_) kk
  have hpre := g_pre (av := .ref b :: As) K hP hD hS is hC hnd
  exact va_runV (As := As) (rest := rest) K.1 (hM H.size) (cwV n K.1.2.2.2.2 hG hw rfl rfl ⟨hyc, hy⟩ (by rw [hR]; exact hr1)) ⟨hpre.1, va_recv K.2.1 hP hc he, hpre.2⟩ rfl hn hl.1 hst0.symm (lv_room hcat) hd (by rw [hR]; exact hr2)
theorem g_callS0 (K : Cx X cc own Ts tys sd) (hR : X.2.2.2.1 = R0) (hM : Ctr X.2.1 (gxD X) tys sd y ws_ rm As rv wi wo post) (hG : GoodIn Ts (va_wsS own index y ws_)) (hw : ws_ = Cond.code y bytes maxL ret :: ws9) (hy : yOk y n) (hn : As.length = n) (hrm : rmOk R0 rm maxL cl sl = true)
    (hst0 : As.reverse ++ rest = st0) (hcat : (rest.map fun v => v.category).sum ≤ 8) (hd : decode cc pc = .ok (.invokestatic index, 3)) (is : List Nat) (hC : is.map (fun i => ws[i]?) = wi.map some) (hnd : va_nd is = true) (hwo : ∀ u, w1 u ++ wn u = wo u) (hf : ∀ u, (w1 u).map Prod.fst = wi.map Prod.fst)
    (hws : ∀ u, updW ws is (w1 u) ++ wn u = ws' u) (hst : ∀ u, (rv u).toList ++ rest = st' u) (hcl : cl + rm.cells = cl') (hsl : sl + rm.slots = sl') (kk : ∀ u, post u → Gx X cl' sl' (ws' u) lv (pc + 3) (st' u)) : Gx X cl sl ws lv pc st0 := by
  obtain ⟨hr1, hr2⟩ := rmOk_of hrm
  refine g_callX0 (av := (As).toArray) K is hC hnd hwo hf hws hst hcl hsl (fun H locs ls hP hD hS hl => ?_) kk
  have hpre := g_pre (av := As) K hP hD hS is hC hnd
  exact va_runS (As := As) (rest := rest) K.1 (hM H.size) (va_cwS n K.1.2.2.2.2 hG hw rfl rfl hy (by rw [hR]; exact hr1)) hpre rfl hn hl.1 hst0.symm (lv_room hcat) hd (by rw [hR]; exact hr2)
theorem g_callSN0 (K : Cx X cc own Ts tys sd) (hR : X.2.2.2.1 = R0) {host : String} (hnest : (own, index, y, host) ∈ xNest) (hstat : Cond.static y ∈ Ts) (hini : Cond.initialized y.cls ∈ Ts) (hM : Ctr X.2.1 (gxD X) tys sd y ws_ rm As rv wi wo post) (hG : GoodIn Ts ws_) (hw : ws_ = Cond.code y bytes maxL ret :: ws9) (hy : yOk y n) (hn : As.length = n) (hrm : rmOk R0 rm maxL cl sl = true)
    (hst0 : As.reverse ++ rest = st0) (hcat : (rest.map fun v => v.category).sum ≤ 8) (hd : decode cc pc = .ok (.invokestatic index, 3)) (is : List Nat) (hC : is.map (fun i => ws[i]?) = wi.map some) (hnd : va_nd is = true) (hwo : ∀ u, w1 u ++ wn u = wo u) (hf : ∀ u, (w1 u).map Prod.fst = wi.map Prod.fst)
    (hws : ∀ u, updW ws is (w1 u) ++ wn u = ws' u) (hst : ∀ u, (rv u).toList ++ rest = st' u) (hcl : cl + rm.cells = cl') (hsl : sl + rm.slots = sl') (kk : ∀ u, post u → Gx X cl' sl' (ws' u) lv (pc + 3) (st' u)) : Gx X cl sl ws lv pc st0 := by
  obtain ⟨hr1, hr2⟩ := rmOk_of hrm
  refine g_callX0 (av := (As).toArray) K is hC hnd hwo hf hws hst hcl hsl (fun H locs ls hP hD hS hl => ?_) kk
  have hpre := g_pre (av := As) K hP hD hS is hC hnd
  have ht := K.1.2.2.2.2
  exact va_runSN (As := As) (rest := rest) K.1 (hM H.size) ⟨va_cnB n ht hG hw rfl rfl (K.2.2.2.1.2.2.2.2.2.2.2.2 _ hnest) (ht _ hini) hy (by rw [hR]; exact hr1), ht _ hstat, trivial⟩ hpre rfl hn hl.1 hst0.symm (lv_room hcat) hd (by rw [hR]; exact hr2)
theorem g_callI0 (K : Cx X cc own Ts tys sd) (hR : X.2.2.2.1 = R0) (hini : Cond.initialized y.cls ∈ Ts) (hlink : Cond.methodLink own index y ∈ Ts) (hinst : Cond.instanceMethod y ∈ Ts) (hy1 : y.name = "<init>") (hM : Ctr X.2.1 (gxD X) tys sd y ws_ rm (.ref b :: As) rv wi wo post) (hG : GoodIn Ts ws_) (hw : ws_ = Cond.code y bytes maxL none :: ws9) (hy : yOk y n) (hn : As.length = n) (hrm : rmOk R0 rm maxL cl sl = true)
    (hst0 : As.reverse ++ .ref b :: rest = st0) (hcat : (rest.map fun v => v.category).sum ≤ 8) (hd : decode cc pc = .ok (.invokespecial index, 3)) (is : List Nat) (hC : is.map (fun i => ws[i]?) = wi.map some) (hnd : va_nd is = true) (hwo : ∀ u, w1 u ++ wn u = wo u) (hf : ∀ u, (w1 u).map Prod.fst = wi.map Prod.fst)
    (hws : ∀ u, updW ws is (w1 u) ++ wn u = ws' u) (hst : ∀ u, (rv u).toList ++ rest = st' u) (hcl : cl + rm.cells = cl') (hsl : sl + rm.slots = sl') (kk : ∀ u, post u → Gx X cl' sl' (ws' u) lv (pc + 3) (st' u)) : Gx X cl sl ws lv pc st0 := by
  obtain ⟨hr1, hr2⟩ := rmOk_of hrm
  refine g_callX0 (av := (Value.ref b :: As).toArray) K is hC hnd hwo hf hws hst hcl hsl (fun H locs ls hP hD hS hl => ?_) kk
  have hpre := g_pre (av := .ref b :: As) K hP hD hS is hC hnd
  have ht := K.1.2.2.2.2
  exact va_runI (As := As) (rest := rest) K.1 (hM H.size) (cwI n ht hG hw rfl rfl (ht _ hini) (ht _ hlink) (ht _ hinst) hy1 hy (by rw [hR]; exact hr1)) hpre rfl hn hl.1 hst0.symm (lv_room hcat) hd (by rw [hR]; exact hr2)
theorem g_callIN0 (K : Cx X cc own Ts tys sd) (hR : X.2.2.2.1 = R0) {host : String} (hnest : (own, index, y, host) ∈ xNest) (hini : Cond.initialized y.cls ∈ Ts) (hinst : Cond.instanceMethod y ∈ Ts) (hy1 : y.name = "<init>") (hM : Ctr X.2.1 (gxD X) tys sd y ws_ rm (.ref b :: As) rv wi wo post) (hG : GoodIn Ts ws_) (hw : ws_ = Cond.code y bytes maxL none :: ws9) (hy : yOk y n) (hn : As.length = n) (hrm : rmOk R0 rm maxL cl sl = true)
    (hst0 : As.reverse ++ .ref b :: rest = st0) (hcat : (rest.map fun v => v.category).sum ≤ 8) (hd : decode cc pc = .ok (.invokespecial index, 3)) (is : List Nat) (hC : is.map (fun i => ws[i]?) = wi.map some) (hnd : va_nd is = true) (hwo : ∀ u, w1 u ++ wn u = wo u) (hf : ∀ u, (w1 u).map Prod.fst = wi.map Prod.fst)
    (hws : ∀ u, updW ws is (w1 u) ++ wn u = ws' u) (hst : ∀ u, (rv u).toList ++ rest = st' u) (hcl : cl + rm.cells = cl') (hsl : sl + rm.slots = sl') (kk : ∀ u, post u → Gx X cl' sl' (ws' u) lv (pc + 3) (st' u)) : Gx X cl sl ws lv pc st0 := by
  obtain ⟨hr1, hr2⟩ := rmOk_of hrm
  refine g_callX0 (av := (Value.ref b :: As).toArray) K is hC hnd hwo hf hws hst hcl hsl (fun H locs ls hP hD hS hl => ?_) kk
  have hpre := g_pre (av := .ref b :: As) K hP hD hS is hC hnd
  have ht := K.1.2.2.2.2
  exact va_runIN (As := As) (rest := rest) K.1 (hM H.size) ⟨va_cnB n ht hG hw rfl rfl (K.2.2.2.1.2.2.2.2.2.2.2.2 _ hnest) (ht _ hini) hy (by rw [hR]; exact hr1), hy1, ht _ hinst⟩ hpre rfl hn hl.1 hst0.symm (lv_room hcat) hd (by rw [hR]; exact hr2)
end Kinds
/-! ends -/
abbrev xMQ (X : GXt) {S : Type} (rv : S → Option Value) (post : S → Prop) (wo : S → va_W) (mc ms : Nat) : State → Prop := MQ X.2.2.2.2.2.2.2.1 (Qg rv post (xB (gxD X) (gxA X) wo) (gxA X)) (gxargs X) (gxS X) mc ms (gxA X)
theorem g_zret {S : Type} {rv : S → Option Value} {post : S → Prop} {wo : S → va_W} {mc ms : Nat} {ty : FieldType} {v : Int32} (K : Cx X cc own Ts tys sd) (E : X.2.2.2.2.2.2.2.2.2.2.1 = xMQ X rv post wo mc ms) (hr : (gxmeth X).sig.returnType = some ty) (u : S) (hp : post u) (hrv : rv u = some (.int v)) (hn : narrow ty (.int v) = .int v) (hwo : wo u = ws) (hc : cl ≤ mc) (hs : sl ≤ ms) (hd : decode cc pc = .ok (.ireturn, 1)) : Gx X cl sl ws lv pc [.int v] := by
  intro H locs ls hP hD hS hl
  show W _ _ _ _ _ _ _ _ _ _ H locs cl sl X.2.2.2.2.2.2.2.2.2.2.1 _
  rw [E]
  exact W.widen hc hs (W.zret K.1.1 K.1.2.1 hr hn (fun t ht hW => ⟨⟨u, by rw [hrv], hp, by rw [hwo, ht]; exact hP, by rw [hwo]; exact hD⟩, hS.F ht⟩) hS.2.2 hd K.2.2.2.2)
theorem g_vret {S : Type} {rv : S → Option Value} {post : S → Prop} {wo : S → va_W} {mc ms : Nat} (K : Cx X cc own Ts tys sd) (E : X.2.2.2.2.2.2.2.2.2.2.1 = xMQ X rv post wo mc ms) (hr : (gxmeth X).sig.returnType = none) (u : S) (hp : post u) (hrv : rv u = none) (hwo : wo u = ws) (hc : cl ≤ mc) (hs : sl ≤ ms) (hd : decode cc pc = .ok (.return_, 1)) : Gx X cl sl ws lv pc [] := by
  intro H locs ls hP hD hS hl
  show W _ _ _ _ _ _ _ _ _ _ H locs cl sl X.2.2.2.2.2.2.2.2.2.2.1 _
  rw [E]
  exact W.widen hc hs (W.vret K.1.1 K.1.2.1 hr (fun t ht hW => ⟨⟨u, by rw [hrv], hp, by rw [hwo, ht]; exact hP, by rw [hwo]; exact hD⟩, hS.F ht⟩) hS.2.2 hd K.2.2.2.2)
theorem g_lret {S : Type} {rv : S → Option Value} {post : S → Prop} {wo : S → va_W} {mc ms : Nat} {v : Int64} (K : Cx X cc own Ts tys sd) (E : X.2.2.2.2.2.2.2.2.2.2.1 = xMQ X rv post wo mc ms) (hr : (gxmeth X).sig.returnType = some .long) (u : S) (hp : post u) (hrv : rv u = some (.long v)) (hwo : wo u = ws) (hc : cl ≤ mc) (hs : sl ≤ ms) (hd : decode cc pc = .ok (.lreturn, 1)) : Gx X cl sl ws lv pc [.long v] := by
  intro H locs ls hP hD hS hl
  show W _ _ _ _ _ _ _ _ _ _ H locs cl sl X.2.2.2.2.2.2.2.2.2.2.1 _
  rw [E]
  exact W.widen hc hs (W.lret K.1.1 K.1.2.1 hr (fun t ht hW => ⟨⟨u, by rw [hrv], hp, by rw [hwo, ht]; exact hP, by rw [hwo]; exact hD⟩, hS.F ht⟩) hS.2.2 hd K.2.2.2.2)
theorem g_dret {S : Type} {rv : S → Option Value} {post : S → Prop} {wo : S → va_W} {mc ms : Nat} {v : UInt64} (K : Cx X cc own Ts tys sd) (E : X.2.2.2.2.2.2.2.2.2.2.1 = xMQ X rv post wo mc ms) (hr : (gxmeth X).sig.returnType = some .double) (u : S) (hp : post u) (hrv : rv u = some (.double v)) (hwo : wo u = ws) (hc : cl ≤ mc) (hs : sl ≤ ms) (hd : decode cc pc = .ok (.dreturn, 1)) : Gx X cl sl ws lv pc [.double v] := by
  intro H locs ls hP hD hS hl
  show W _ _ _ _ _ _ _ _ _ _ H locs cl sl X.2.2.2.2.2.2.2.2.2.2.1 _
  rw [E]
  exact W.widen hc hs (W.dret K.1.1 K.1.2.1 hr (fun t ht hW => ⟨⟨u, by rw [hrv], hp, by rw [hwo, ht]; exact hP, by rw [hwo]; exact hD⟩, hS.F ht⟩) hS.2.2 hd K.2.2.2.2)
theorem g_fret {S : Type} {rv : S → Option Value} {post : S → Prop} {wo : S → va_W} {mc ms : Nat} {v : UInt32} (K : Cx X cc own Ts tys sd) (E : X.2.2.2.2.2.2.2.2.2.2.1 = xMQ X rv post wo mc ms) (hr : (gxmeth X).sig.returnType = some .float) (u : S) (hp : post u) (hrv : rv u = some (.float v)) (hwo : wo u = ws) (hc : cl ≤ mc) (hs : sl ≤ ms) (hd : decode cc pc = .ok (.freturn, 1)) : Gx X cl sl ws lv pc [.float v] := by
  intro H locs ls hP hD hS hl
  show W _ _ _ _ _ _ _ _ _ _ H locs cl sl X.2.2.2.2.2.2.2.2.2.2.1 _
  rw [E]
  exact W.widen hc hs (W.fret K.1.1 K.1.2.1 hr (fun t ht hW => ⟨⟨u, by rw [hrv], hp, by rw [hwo, ht]; exact hP, by rw [hwo]; exact hD⟩, hS.F ht⟩) hS.2.2 hd K.2.2.2.2)
theorem g_aret {S : Type} {rv : S → Option Value} {post : S → Prop} {wo : S → va_W} {mc ms : Nat} {v : Value} {rt : FieldType} (K : Cx X cc own Ts tys sd) (E : X.2.2.2.2.2.2.2.2.2.2.1 = xMQ X rv post wo mc ms) (hr : (gxmeth X).sig.returnType = some rt) (hrt : (∃ n, rt = .object n) ∨ ∃ t, rt = .array t) (u : S) (hp : post u) (hrv : rv u = some v) (hv : v = .null ∨ ∃ a, v = .ref a) (hwo : wo u = ws) (hc : cl ≤ mc) (hs : sl ≤ ms) (hd : decode cc pc = .ok (.areturn, 1)) : Gx X cl sl ws lv pc [v] := by
  intro H locs ls hP hD hS hl
  show W _ _ _ _ _ _ _ _ _ _ H locs cl sl X.2.2.2.2.2.2.2.2.2.2.1 _
  rw [E]
  exact W.widen hc hs (W.aret K.1.1 K.1.2.1 hr hrt hv (fun t ht hW => ⟨⟨u, by rw [hrv], hp, by rw [hwo, ht]; exact hP, by rw [hwo]; exact hD⟩, hS.F ht⟩) hS.2.2 hd K.2.2.2.2)
end GC

/-! ===== shorter call rows; Math; statics ===== -/
abbrev xTys (cy : Nat → ClassId) : List (ClassId × FieldType) := [(cy 0, .int), (cy 1, .char), (cy 2, .long), (cy 3, .double), (cy 4, .object "RecyclingSorter$Plant")]
abbrev XRow : Type := Nat → Int32
abbrev xMax (x y : Int32) : Int32 := if x < y then y else x
abbrev xMin (x y : Int32) : Int32 := if y < x then y else x
abbrev xAbs (x : Int32) : Int32 := if 0 ≤ x then x else 0 - x
abbrev xUshr (x y : Int32) : Int32 := (x.toUInt32 >>> (y.toUInt32 &&& Int32.toUInt32 31)).toInt32
section GD
variable {X : GXt} {cc : ByteArray} {own : String} {Ts : List Cond} {tys : List (ClassId × FieldType)} {sd : xSd} {cl sl : Nat} {ws : va_W} {lv : List (Nat × Value)} {pc : Nat}
variable {R0 : Room} {y : MethodName} {ws_ ws9 : List Cond} {rm : Room} {S : Type} {rv : S → Option Value} {wi : va_W} {wo ws' : S → va_W} {st' : S → List Value} {post : S → Prop} {n maxL index : Nat} {bytes : ByteArray} {ret : Option FieldType} {b : Addr} {st0 : List Value}
/-- a call of a method that makes nothing -/
theorem g_callV (K : Cx X cc own Ts tys sd) (hR : X.2.2.2.1 = R0) (As rest : List Value) {C : String} {T : u_T} {N ci : Nat} {fs : List Value} (q0 : Nat) (he : ws[q0]? = some (b, .inr (ci, fs))) (hc : vwCl[ci]? = some (C, T, N)) (hM : Ctr X.2.1 (gxD X) tys sd y ws_ rm (.ref b :: As) rv wi wo post) (hG : GoodIn Ts (wsV own index C y ws_)) (hw : ws_ = Cond.code y bytes maxL ret :: ws9) (hy : yOk y n) (hyc : y.cls = C) (hn : As.length = n) (hrm : rmOk R0 rm maxL cl sl = true)
    (hst0 : As.reverse ++ .ref b :: rest = st0) (hcat : (rest.map fun v => v.category).sum ≤ 8) (hd : decode cc pc = .ok (.invokevirtual index, 3)) (is : List Nat) (hC : is.map (fun i => ws[i]?) = wi.map some) (hnd : va_nd is = true) (hf : ∀ u, (wo u).map Prod.fst = wi.map Prod.fst)
    (hws : ∀ u, updW ws is (wo u) = ws' u) (hst : ∀ u, (rv u).toList ++ rest = st' u) (hz : rm.cells = 0 ∧ rm.slots = 0) (kk : ∀ u, post u → Gx X cl sl (ws' u) lv (pc + 3) (st' u)) : Gx X cl sl ws lv pc st0 :=
  g_callV0 K hR q0 he hc hM hG hw hy hyc hn hrm hst0 hcat hd is hC hnd (w1 := wo) (wn := fun _ => []) (fun _ => List.append_nil _) hf (fun u => by rw [List.append_nil]; exact hws u) hst (by rw [hz.1]; rfl) (by rw [hz.2]; rfl) kk
/-- .. that only reads -/
theorem g_callVr (K : Cx X cc own Ts tys sd) (hR : X.2.2.2.1 = R0) (As rest : List Value) {C : String} {T : u_T} {N ci : Nat} {fs : List Value} (q0 : Nat) (he : ws[q0]? = some (b, .inr (ci, fs))) (hc : vwCl[ci]? = some (C, T, N)) (hM : Ctr X.2.1 (gxD X) tys sd y ws_ rm (.ref b :: As) rv wi (fun _ => wi) post) (hG : GoodIn Ts (wsV own index C y ws_)) (hw : ws_ = Cond.code y bytes maxL ret :: ws9) (hy : yOk y n) (hyc : y.cls = C) (hn : As.length = n) (hrm : rmOk R0 rm maxL cl sl = true)
    (hst0 : As.reverse ++ .ref b :: rest = st0) (hcat : (rest.map fun v => v.category).sum ≤ 8) (hd : decode cc pc = .ok (.invokevirtual index, 3)) (is : List Nat) (hC : is.map (fun i => ws[i]?) = wi.map some) (hnd : va_nd is = true)
    (hst : ∀ u, (rv u).toList ++ rest = st' u) (hz : rm.cells = 0 ∧ rm.slots = 0) (kk : ∀ u, post u → Gx X cl sl ws lv (pc + 3) (st' u)) : Gx X cl sl ws lv pc st0 :=
  g_callV K hR As rest q0 he hc hM hG hw hy hyc hn hrm hst0 hcat hd is hC hnd (fun _ => rfl) (fun _ => updW_self is wi ws hC) hst hz kk
theorem g_callS (K : Cx X cc own Ts tys sd) (hR : X.2.2.2.1 = R0) (As rest : List Value) (hM : Ctr X.2.1 (gxD X) tys sd y ws_ rm As rv wi wo post) (hG : GoodIn Ts (va_wsS own index y ws_)) (hw : ws_ = Cond.code y bytes maxL ret :: ws9) (hy : yOk y n) (hn : As.length = n) (hrm : rmOk R0 rm maxL cl sl = true)
    (hst0 : As.reverse ++ rest = st0) (hcat : (rest.map fun v => v.category).sum ≤ 8) (hd : decode cc pc = .ok (.invokestatic index, 3)) (is : List Nat) (hC : is.map (fun i => ws[i]?) = wi.map some) (hnd : va_nd is = true) (hf : ∀ u, (wo u).map Prod.fst = wi.map Prod.fst)
    (hws : ∀ u, updW ws is (wo u) = ws' u) (hst : ∀ u, (rv u).toList ++ rest = st' u) (hz : rm.cells = 0 ∧ rm.slots = 0) (kk : ∀ u, post u → Gx X cl sl (ws' u) lv (pc + 3) (st' u)) : Gx X cl sl ws lv pc st0 :=
  g_callS0 K hR hM hG hw hy hn hrm hst0 hcat hd is hC hnd (w1 := wo) (wn := fun _ => []) (fun _ => List.append_nil _) hf (fun u => by rw [List.append_nil]; exact hws u) hst (by rw [hz.1]; rfl) (by rw [hz.2]; rfl) kk
theorem g_callSr (K : Cx X cc own Ts tys sd) (hR : X.2.2.2.1 = R0) (As rest : List Value) (hM : Ctr X.2.1 (gxD X) tys sd y ws_ rm As rv wi (fun _ => wi) post) (hG : GoodIn Ts (va_wsS own index y ws_)) (hw : ws_ = Cond.code y bytes maxL ret :: ws9) (hy : yOk y n) (hn : As.length = n) (hrm : rmOk R0 rm maxL cl sl = true)
    (hst0 : As.reverse ++ rest = st0) (hcat : (rest.map fun v => v.category).sum ≤ 8) (hd : decode cc pc = .ok (.invokestatic index, 3)) (is : List Nat) (hC : is.map (fun i => ws[i]?) = wi.map some) (hnd : va_nd is = true)
    (hst : ∀ u, (rv u).toList ++ rest = st' u) (hz : rm.cells = 0 ∧ rm.slots = 0) (kk : ∀ u, post u → Gx X cl sl ws lv (pc + 3) (st' u)) : Gx X cl sl ws lv pc st0 :=
  g_callS K hR As rest hM hG hw hy hn hrm hst0 hcat hd is hC hnd (fun _ => rfl) (fun _ => updW_self is wi ws hC) hst hz kk
theorem g_callSNr (K : Cx X cc own Ts tys sd) (hR : X.2.2.2.1 = R0) (As rest : List Value) (host : String) (hnest : (own, index, y, host) ∈ xNest) (hstat : Cond.static y ∈ Ts) (hini : Cond.initialized y.cls ∈ Ts) (hM : Ctr X.2.1 (gxD X) tys sd y ws_ rm As rv wi (fun _ => wi) post) (hG : GoodIn Ts ws_) (hw : ws_ = Cond.code y bytes maxL ret :: ws9) (hy : yOk y n) (hn : As.length = n) (hrm : rmOk R0 rm maxL cl sl = true)
    (hst0 : As.reverse ++ rest = st0) (hcat : (rest.map fun v => v.category).sum ≤ 8) (hd : decode cc pc = .ok (.invokestatic index, 3)) (is : List Nat) (hC : is.map (fun i => ws[i]?) = wi.map some) (hnd : va_nd is = true)
    (hst : ∀ u, (rv u).toList ++ rest = st' u) (hz : rm.cells = 0 ∧ rm.slots = 0) (kk : ∀ u, post u → Gx X cl sl ws lv (pc + 3) (st' u)) : Gx X cl sl ws lv pc st0 :=
  g_callSN0 K hR hnest hstat hini hM hG hw hy hn hrm hst0 hcat hd is hC hnd (w1 := fun _ => wi) (wn := fun _ => []) (fun _ => List.append_nil _) (fun _ => rfl) (fun u => by rw [List.append_nil]; exact updW_self is wi ws hC) hst (by rw [hz.1]; rfl) (by rw [hz.2]; rfl) kk
/-- Math -/
abbrev rmMath (R : Room) (cl sl : Nat) : Prop := 1 ≤ R.frames ∧ 21 ≤ R.locals ∧ cl ≤ R.cells ∧ sl ≤ R.slots
theorem g_mmax (K : Cx X cc own Ts tys sd) (hR : X.2.2.2.1 = R0) {x y rest} (hlink : Cond.methodLink own index Lib.Math.max.name ∈ Ts) (hstat : Cond.static Lib.Math.max.name ∈ Ts) (hini : Cond.initialized "java/lang/Math" ∈ Ts) (hcode : Cond.code Lib.Math.max.name Lib.Math.max.code 2 (some .int) ∈ Ts) (hr : rmMath R0 cl sl) (hcat : (rest.map fun v : Value => v.category).sum ≤ 8) (hd : decode cc pc = .ok (.invokestatic index, 3)) (kk : Gx X cl sl ws lv (pc + 3) (.int (xMax x y) :: rest)) : Gx X cl sl ws lv pc (.int y :: .int x :: rest) :=
  fun H locs ls hP hD hS hl => va_mmax K.1.1 K.1.2.1 (K.1.2.2.1.trans hl.1.symm) K.1.2.2.2.1 (K.1.2.2.2.2 _ hlink) (K.1.2.2.2.2 _ hstat) (K.1.2.2.2.2 _ hini) (K.1.2.2.2.2 _ hcode) (by rw [hR]; exact hr.1) (by rw [hR]; have := hr.2.1; omega) (by rw [hR]; exact hr.2.2.1) (by rw [hR]; exact hr.2.2.2) hd (kk H locs ls hP hD hS hl)
theorem g_mmin (K : Cx X cc own Ts tys sd) (hR : X.2.2.2.1 = R0) {x y rest} (hlink : Cond.methodLink own index Lib.Math.min.name ∈ Ts) (hstat : Cond.static Lib.Math.min.name ∈ Ts) (hini : Cond.initialized "java/lang/Math" ∈ Ts) (hcode : Cond.code Lib.Math.min.name Lib.Math.min.code 2 (some .int) ∈ Ts) (hr : rmMath R0 cl sl) (hcat : (rest.map fun v : Value => v.category).sum ≤ 8) (hd : decode cc pc = .ok (.invokestatic index, 3)) (kk : Gx X cl sl ws lv (pc + 3) (.int (xMin x y) :: rest)) : Gx X cl sl ws lv pc (.int y :: .int x :: rest) :=
  fun H locs ls hP hD hS hl => va_mmin K.1.1 K.1.2.1 (K.1.2.2.1.trans hl.1.symm) K.1.2.2.2.1 (K.1.2.2.2.2 _ hlink) (K.1.2.2.2.2 _ hstat) (K.1.2.2.2.2 _ hini) (K.1.2.2.2.2 _ hcode) (by rw [hR]; exact hr.1) (by rw [hR]; have := hr.2.1; omega) (by rw [hR]; exact hr.2.2.1) (by rw [hR]; exact hr.2.2.2) hd (kk H locs ls hP hD hS hl)
theorem g_mabs (K : Cx X cc own Ts tys sd) (hR : X.2.2.2.1 = R0) {x rest} (hlink : Cond.methodLink own index Lib.Math.abs.name ∈ Ts) (hstat : Cond.static Lib.Math.abs.name ∈ Ts) (hini : Cond.initialized "java/lang/Math" ∈ Ts) (hcode : Cond.code Lib.Math.abs.name Lib.Math.abs.code 1 (some .int) ∈ Ts) (hr : rmMath R0 cl sl) (hcat : (rest.map fun v : Value => v.category).sum ≤ 8) (hd : decode cc pc = .ok (.invokestatic index, 3)) (kk : Gx X cl sl ws lv (pc + 3) (.int (xAbs x) :: rest)) : Gx X cl sl ws lv pc (.int x :: rest) :=
  fun H locs ls hP hD hS hl => va_mabs K.1.1 K.1.2.1 (K.1.2.2.1.trans hl.1.symm) K.1.2.2.2.1 (K.1.2.2.2.2 _ hlink) (K.1.2.2.2.2 _ hstat) (K.1.2.2.2.2 _ hini) (K.1.2.2.2.2 _ hcode) (by rw [hR]; exact hr.1) (by rw [hR]; have := hr.2.1; omega) (by rw [hR]; exact hr.2.2.1) (by rw [hR]; exact hr.2.2.2) hd (kk H locs ls hP hD hS hl)
theorem g_ldcI (K : Cx X cc own Ts tys sd) {rest : List Value} {v : Int32} (hconst : Cond.constant own index v ∈ Ts) (hd : decode cc pc = .ok (.ldc index, 2)) (kk : Gx X cl sl ws lv (pc + 2) (.int v :: rest)) : Gx X cl sl ws lv pc rest :=
  fun H locs ls hP hD hS hl => lv_ldc K.1.1 K.1.2.1 K.1.2.2.2.1 (K.1.2.2.2.2 _ hconst) hd (kk H locs ls hP hD hS hl)
theorem g_fconst0 (K : Cx X cc own Ts tys sd) {rest : List Value} (hd : decode cc pc = .ok (.fconst 0, 1)) (kk : Gx X cl sl ws lv (pc + 1) (.float FP.fconst0 :: rest)) : Gx X cl sl ws lv pc rest :=
  fun H locs ls hP hD hS hl => lv_fconst0 K.1.1 K.1.2.1 hd (kk H locs ls hP hD hS hl)
theorem g_dconst0 (K : Cx X cc own Ts tys sd) {rest : List Value} (hd : decode cc pc = .ok (.dconst 0, 1)) (kk : Gx X cl sl ws lv (pc + 1) (.double FP.dconst0 :: rest)) : Gx X cl sl ws lv pc rest :=
  fun H locs ls hP hD hS hl => lv_dconst0 K.1.1 K.1.2.1 hd (kk H locs ls hP hD hS hl)
theorem g_ldcS (K : Cx X cc own Ts tys sd) {rest : List Value} {q : Nat × String} (k : Nat) (hq : xTx[k]? = some q) (hown : own = "RecyclingSorter$Text") (hd : decode cc pc = .ok (.ldc q.1, 2)) (kk : Gx X cl sl ws lv (pc + 2) (.ref (sd.2.2.1 k) :: rest)) : Gx X cl sl ws lv pc rest :=
  fun H locs ls hP hD hS hl => va_ldcS K.1.1 K.1.2.1 (by rw [← hown]; exact K.1.2.2.2.1) (K.2.2.2.1.2.2.2.2.2.1 k q hq) hd (kk H locs ls hP hD hS hl)
theorem g_objInit (K : Cx X cc own Ts tys sd) (hR : X.2.2.2.1 = R0) {a : Nat} {rest : List Value} (hlink : Cond.methodLink own index objectInit ∈ Ts) (hinst : Cond.instanceMethod objectInit ∈ Ts) (hcode : Cond.code objectInit ⟨#[0xb1]⟩ 1 none ∈ Ts) (hr : 1 ≤ R0.frames ∧ 21 ≤ R0.locals) (hcat : (rest.map fun v : Value => v.category).sum ≤ 8) (hd : decode cc pc = .ok (.invokespecial index, 3)) (kk : Gx X cl sl ws lv (pc + 3) rest) : Gx X cl sl ws lv pc (.ref a :: rest) :=
  fun H locs ls hP hD hS hl => W.objInit K.1.1 K.1.2.1 K.1.2.2.2.1 (K.1.2.2.2.2 _ hlink) (K.1.2.2.2.2 _ hinst) (K.1.2.2.2.2 _ hcode) rfl (hl.1.trans K.1.2.2.1.symm) rfl hd (by rw [hR]; exact hr.1) (by rw [hR]; have := hr.2; show 0 + _ + 12 ≤ _; omega) (kk H locs ls hP hD hS hl)
/-- System.arraycopy of ints, from the beginning to the beginning -/
theorem g_acopy (K : Cx X cc own Ts tys sd) (hR : X.2.2.2.1 = R0) {rest : List Value} {a a0 : Nat} {c0 c1 : ClassId} {n0 n1 : Nat} {f g : Nat → Int32} {x : Int32} {w' : va_W} (q0 q1 t0 : Nat) (hlink : Cond.methodLink own index arraycopyName ∈ Ts) (hnat : Cond.native arraycopyName ∈ Ts) (hstat : Cond.static arraycopyName ∈ Ts) (hini : Cond.initialized "java/lang/System" ∈ Ts) (ha0 : ws[q0]? = some (a0, .inl (c0, n0, .inl f))) (ha1 : ws[q1]? = some (a, .inl (c1, n1, .inl g))) (ht0 : tys[t0]? = some (c0, .int)) (ht1 : tys[t0]? = some (c1, .int))
    (hx : ¬ x < 0 ∧ x.toNatClampNeg ≤ n0 ∧ x.toNatClampNeg ≤ n1) (hr : 1 ≤ R0.frames ∧ 8 + (nativeFrameWords "java/lang/System" "arraycopy" 5 + 11) ≤ R0.locals) (hcat : (rest.map fun v : Value => v.category).sum ≤ 8) (hw : ws.set q1 (a, .inl (c1, n1, .inl (va_cpy f g 0 0 x.toNatClampNeg))) = w') (hd : decode cc pc = .ok (.invokestatic index, 3)) (kk : Gx X cl sl w' lv (pc + 3) rest) : Gx X cl sl ws lv pc (.int x :: .int 0 :: .ref a :: .int 0 :: .ref a0 :: rest) :=
  fun H locs ls hP hD hS hl => va_copyi K.1.1 K.1.2.1 (K.1.2.2.1.trans hl.1.symm) K.1.2.2.2.1 (K.1.2.2.2.2 _ hlink) (K.1.2.2.2.2 _ hnat) (K.1.2.2.2.2 _ hstat) (K.1.2.2.2.2 _ hini) K.2.1 hP hD hS q0 q1 t0 t0 ha0 ha1 ht0 ht1 rfl (by decide) (by decide) hx.1 (by have := hx.2.1; show (0 : Int32).toNatClampNeg + _ ≤ _; rw [show (0 : Int32).toNatClampNeg = 0 from rfl]; omega) (by have := hx.2.2; show (0 : Int32).toNatClampNeg + _ ≤ _; rw [show (0 : Int32).toNatClampNeg = 0 from rfl]; omega) (fun _ _ => rfl) (by rw [hR]; exact hr.1) (by rw [hR]; have := hr.2; omega) hd (fun H1 locs1 hP1 hD1 hS1 => kk H1 locs1 ls (hw ▸ hP1) (hw ▸ hD1) hS1 hl)
/-- getstatic of an enum constant, of a static array -/
theorem g_getsF (K : Cx X cc own Ts tys sd) {rest : List Value} (k : Nat) (hk : k < 4) {nm : String} (hnm : xFn.getD k "" = nm) (hlink : Cond.fieldLink own index "RecyclingSorter$Fault" nm xFd ∈ Ts) (hd : decode cc pc = .ok (.getstatic index, 3)) (kk : Gx X cl sl ws lv (pc + 3) (.ref (sd.1 k) :: rest)) : Gx X cl sl ws lv pc rest :=
  fun H locs ls hP hD hS hl => va_gets K.1.1 K.1.2.1 (K.2.2.2.1.1.1 k hk).1 hS K.1.2.2.2.1 (by rw [hnm]; exact K.1.2.2.2.2 _ hlink) (fun _ h => h) hd (kk H locs ls hP hD hS hl)
theorem g_getsA (K : Cx X cc own Ts tys sd) {rest : List Value} (k : Nat) (hk : k < 4) {nm : String} (hnm : xArrN k = nm) (hlink : Cond.fieldLink own index "RecyclingSorter" nm "[I" ∈ Ts) (hd : decode cc pc = .ok (.getstatic index, 3)) (kk : Gx X cl sl ws lv (pc + 3) (.ref (sd.2.1 k) :: rest)) : Gx X cl sl ws lv pc rest :=
  fun H locs ls hP hD hS hl => va_gets K.1.1 K.1.2.1 (K.2.2.2.1.2.1 k hk).1 hS K.1.2.2.2.1 (by rw [hnm]; exact K.1.2.2.2.2 _ hlink) (fun _ h => h) hd (kk H locs ls hP hD hS hl)
theorem g_alenA (K : Cx X cc own Ts tys sd) {rest : List Value} (k : Nat) (hk : k < 4) (hd : decode cc pc = .ok (.arraylength, 1)) (kk : Gx X cl sl ws lv (pc + 1) (.int 5 :: rest)) : Gx X cl sl ws lv pc (.ref (sd.2.1 k) :: rest) :=
  fun H locs ls hP hD hS hl => va_tlen K.1.1 K.1.2.1 (K.2.2.2.1.2.1 k hk).2 hS rfl hd (kk H locs ls hP hD hS hl)
theorem g_ialdA (K : Cx X cc own Ts tys sd) {rest : List Value} {i : Int32} (k : Nat) (hk : k < 4) (hin : vp_in i 5) (hd : decode cc pc = .ok (.iaload, 1)) (kk : Gx X cl sl ws lv (pc + 1) (.int ((xArrV k).getD i.toNatClampNeg 0) :: rest)) : Gx X cl sl ws lv pc (.int i :: .ref (sd.2.1 k) :: rest) :=
  fun H locs ls hP hD hS hl => va_ti K.1.1 K.1.2.1 (K.2.2.2.1.2.1 k hk).2 hS hin rfl hd (kk H locs ls hP hD hS hl)
/-- two enum constants -/
theorem g_acmpF_eq (K : Cx X cc own Ts tys sd) {rest : List Value} {off : Int} {tgt : Nat} (i j : Fin 4) (hd : decode cc pc = .ok (.if_acmp .eq off, 3)) (ht : (pc : Int) + off = (tgt : Int)) (kt : i = j → Gx X cl sl ws lv tgt rest) (kf : ¬ i = j → Gx X cl sl ws lv (pc + 3) rest) : Gx X cl sl ws lv pc (.ref (sd.1 j.val) :: .ref (sd.1 i.val) :: rest) :=
  fun H locs ls hP hD hS hl => lv_acmp_eq (rx := some (sd.1 i.val)) (ry := some (sd.1 j.val)) K.1.1 K.1.2.1 hd ht (fun h => kt (Fin.ext (K.2.2.2.1.1.2 _ _ i.isLt j.isLt (Option.some.inj h))) H locs ls hP hD hS hl) (fun h => kf (fun e => h (by rw [e])) H locs ls hP hD hS hl)
theorem g_acmpF_ne (K : Cx X cc own Ts tys sd) {rest : List Value} {off : Int} {tgt : Nat} (i j : Fin 4) (hd : decode cc pc = .ok (.if_acmp .ne off, 3)) (ht : (pc : Int) + off = (tgt : Int)) (kt : ¬ i = j → Gx X cl sl ws lv tgt rest) (kf : i = j → Gx X cl sl ws lv (pc + 3) rest) : Gx X cl sl ws lv pc (.ref (sd.1 j.val) :: .ref (sd.1 i.val) :: rest) :=
  fun H locs ls hP hD hS hl => lv_acmp_ne (rx := some (sd.1 i.val)) (ry := some (sd.1 j.val)) K.1.1 K.1.2.1 hd ht (fun h => kt (fun e => h (by rw [e])) H locs ls hP hD hS hl) (fun h => kf (Fin.ext (K.2.2.2.1.1.2 _ _ i.isLt j.isLt (Option.some.inj h))) H locs ls hP hD hS hl)
end GD
/-- a switch over a run of numbers -/
theorem sw_out {x : Int32} {lo : Int} {n : Nat} : (x.toInt < lo ∨ lo + n ≤ x.toInt) ∨ ∃ k : Nat, k < n ∧ x.toInt = lo + k := by
  by_cases h1 : x.toInt < lo
  · exact Or.inl (Or.inl h1)
  · by_cases h2 : lo + n ≤ x.toInt
    · exact Or.inl (Or.inr h2)
    · exact Or.inr ⟨(x.toInt - lo).toNat, by omega, by omega⟩

