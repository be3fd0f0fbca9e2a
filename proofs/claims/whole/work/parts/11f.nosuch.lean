/-! ===== a throw of a NoSuchElementException: the link in its constructor stands at place 13 of its pool, not at 7, so the kit's words of a throw don't hold of it ===== -/
def nsB : ByteArray := ⟨#[0x2a, 0x2b, 0xb7, 0x00, 0x0d, 0xb1]⟩
theorem ns_0 : decode nsB 0 = .ok (.aload_n 0, 1) := by decide +kernel
theorem ns_1 : decode nsB 1 = .ok (.aload_n 1, 1) := by decide +kernel
theorem ns_2 : decode nsB 2 = .ok (.invokespecial 13, 3) := by decide +kernel
theorem ns_5 : decode nsB 5 = .ok (.return_, 1) := by decide +kernel
/-- a field that X lays -/
abbrev xq_lay (X f d : String) : Cond := .lays X Bundle.tN f d
abbrev xq_isr (f d : String) : Cond := .isRef (.static Bundle.tN f d)
/-- the words of such a throw, of a class X whose constructor's link stands at 13; Y is the class above X, r those above it -/
def xq_own (own : String) (ic : Nat) (X Y : String) (r : List String) : List Cond :=
  (Bundle.throwableAtoms ++ Bundle.throwableSAtoms) ++ ((Bundle.passSAtoms X Y 13 nsB ++ Bundle.chainSAtoms Y r) ++
  [.methodLink own ic (Bundle.initS X), .instantiable X 6, .selects X Bundle.tFill0 Bundle.tFill0, .selects X Bundle.tFill Bundle.tFill,
   xq_lay X "cause" "Ljava/lang/Throwable;", xq_lay X "stackTrace" Bundle.steD, xq_lay X "suppressedExceptions" Bundle.listD, xq_lay X "detailMessage" "Ljava/lang/String;", xq_lay X "backtrace" "Ljava/lang/Object;",
   xq_isr "UNASSIGNED_STACK" Bundle.steD, xq_isr "SUPPRESSED_SENTINEL" Bundle.listD, .fieldLink Bundle.tN 198 Bundle.tN "backtrace" "Ljava/lang/Object;", xq_lay Bundle.tN "backtrace" "Ljava/lang/Object;"])
theorem xq_a {own X Y : String} {ic : Nat} {r : List String} {w : Cond} (h : w ∈ Bundle.throwableAtoms) : w ∈ xq_own own ic X Y r := List.mem_append_left _ (List.mem_append_left _ h)
theorem xq_b {own X Y : String} {ic : Nat} {r : List String} {w : Cond} (h : w ∈ Bundle.throwableSAtoms) : w ∈ xq_own own ic X Y r := List.mem_append_left _ (List.mem_append_right _ h)
theorem xq_c {own X Y : String} {ic : Nat} {r : List String} {w : Cond} (h : w ∈ Bundle.passSAtoms X Y 13 nsB) : w ∈ xq_own own ic X Y r := List.mem_append_right _ (List.mem_append_left _ (List.mem_append_left _ h))
theorem xq_d {own X Y : String} {ic : Nat} {r : List String} {w : Cond} (h : w ∈ Bundle.chainSAtoms Y r) : w ∈ xq_own own ic X Y r := List.mem_append_right _ (List.mem_append_left _ (List.mem_append_right _ h))
theorem xq_e {own X Y : String} {ic : Nat} {r : List String} {w : Cond} (k : Nat) (h : ([.methodLink own ic (Bundle.initS X), .instantiable X 6, .selects X Bundle.tFill0 Bundle.tFill0, .selects X Bundle.tFill Bundle.tFill,
   xq_lay X "cause" "Ljava/lang/Throwable;", xq_lay X "stackTrace" Bundle.steD, xq_lay X "suppressedExceptions" Bundle.listD, xq_lay X "detailMessage" "Ljava/lang/String;", xq_lay X "backtrace" "Ljava/lang/Object;",
   xq_isr "UNASSIGNED_STACK" Bundle.steD, xq_isr "SUPPRESSED_SENTINEL" Bundle.listD, .fieldLink Bundle.tN 198 Bundle.tN "backtrace" "Ljava/lang/Object;", xq_lay Bundle.tN "backtrace" "Ljava/lang/Object;"] : List Cond)[k]? = some w) : w ∈ xq_own own ic X Y r := List.mem_append_right _ (List.mem_append_right _ (List.mem_of_getElem? h))
def xq_at (own : String) (ic : Nat) (X : String) (names : List String) : List Cond := match names with
  | Y :: r => (xq_own own ic X Y r).filter vx_no
  | [] => []
section NQ0
variable {p : Program} {l : Launch} {e : Env} {R : Room} {s : State} {m₀ : MethodId} {args : Array Value} {below : List Frame} {meth : Method} {c : Code} {W : State} {locs : List Loc} {cells slots : Nat}
/-- a virtual call on an object of X finds what the word says -/
theorem xq_sel (hpl : ∀ (vm : Vm) (a : ClassId) (b : MethodId), selectMethod e.platform vm a b = selectMethod {} vm a b) {X : String} {cX : ClassId} {y : MethodName} {my : MethodId} (hf : s.vm.findClass X = some cX) (h1 : s.methodFound? y.cls y.name y.desc = some my) (h2 : s.methodNamed? y = some my) (w : (Cond.selects X y y).before args s = true) : selectMethod e.platform s.vm cX my = .method my := by
  obtain ⟨c2, r2, m2, q1, q2, q3, q4, -⟩ := Cond.selects_spec w
  rw [hf] at q1
  rw [h1] at q2
  rw [h2] at q3
  cases q1
  cases q2
  cases q3
  rw [hpl]
  exact q4
/-- the chain of constructors -/
theorem xq_chain {pl : Platform} (hpl : pl.magicAccessors = ({} : Platform).magicAccessors) {top : MethodId} (htop : s.methodNamed? (Bundle.initS Bundle.tN) = some top) {own X Y : String} {ic : Nat} {r : List String} (hX : Bundle.fit X = true) (hn : ∀ n ∈ Y :: r, Bundle.fit n = true) (h : ∀ w ∈ xq_own own ic X Y r, w.before args s = true) :
    ∃ Q : PassC, ∃ Qs : List PassC, Qs.length = (Y :: r).length ∧ (∀ P ∈ Q :: Qs, P.LinksS pl s) ∧ s.methodNamed? (Bundle.initS X) = some Q.m ∧ PassesOn top ((Q :: Qs).map (·.toPassT)) := by
  obtain ⟨Q, a1, a2, a3⟩ := PassC.ofS_atoms (args := args) (s := s) hpl (X := X) (Y := Y) (Bundle.fit_spec hX).1 (Bundle.fit_spec (hn Y List.mem_cons_self)).2 ns_0 ns_1 ns_2 ns_5 (fun w hw => h w (xq_c hw))
  obtain ⟨Q2, Qs, b1, b2, b3, b4, b5, b6⟩ := Bundle.chainS (args := args) hpl htop r Y (hn Y List.mem_cons_self) (fun n h2 => hn n (List.mem_cons_of_mem _ h2)) (fun w hw => h w (xq_d hw))
  refine ⟨Q, Q2 :: Qs, by rw [List.length_cons, List.length_cons, b1], fun P hP => ?_, a2, ?_⟩
  · rcases List.mem_cons.mp hP with rfl | hP
    · exact a1
    · rcases List.mem_cons.mp hP with rfl | hP
      · exact b2
      · exact b3 P hP
  · exact ⟨Option.some.inj (a3.symm.trans b4), b5, b6⟩
end NQ0
section NQ3
variable {p : Program} {l : Launch} {e : Env} {R : Room} {s : State} {m₀ : MethodId} {args : Array Value} {below : List Frame} {meth : Method} {c : Code} {W : State} {locs : List Loc} {cells slots : Nat}
set_option maxHeartbeats 1000000 in
/-- new object on the stack twice, its text above: the constructor runs, the throw leaves the method -/
theorem xq_ctor (X : Stand p l e R s m₀ args below meth c W locs cells slots) (hexec : p.tables.exec = Jvm.exec) (htr : e.platform.stackTraces = false) {own cls Y : String} {r : List String} {ic : Nat}
    (hown : s.vm.findClass own = some m₀.cls) (hcls : Bundle.fit cls = true) (hnames : ∀ n ∈ Y :: r, Bundle.fit n = true) (h : ∀ w ∈ xq_own own ic cls Y r, w.before args s = true)
    (hlocs : ∀ x ∈ locs, ∀ cell, s.heap[x.base]? = some cell → cell.vm.isStatics = false)
    {a : Addr} {cX : ClassId} {kX : Class} (hfX : s.vm.findClass cls = some cX) (hkX : s.vm.classes[cX]? = some kX) (hcell : W.heap[a]? = some (freshCell cX kX)) (hnew : s.heap.size ≤ a)
    {msg : Value} (hmsg : msg.isRef = true) {g : JFrame} (hg : g.method = m₀) (hsize : g.locals.size = c.maxLocals) (hlocked : g.locked = none) (hentered : g.entered = []) {rest : List Value} (hstack : g.stack = msg :: .ref a :: .ref a :: rest)
    (hd6 : decode c.code g.pc = .ok (.invokespecial ic, 3)) (hd9 : decode c.code (g.pc + 3) = .ok (.athrow, 1)) (hout : ∀ x ∈ c.exceptionTable.toList, covers x (g.pc + 3) = false)
    (hRf : (Y :: r).length + 3 < R.frames) (hRl : 2 * g.monitorRoom + ((Value.ref a :: rest).map fun v => v.category).sum + (13 * ((Y :: r).length + 1) + 42) ≤ R.locals) (hlocks : meth.locks = false) :
    ∃ U : State, Steps p.tables e below (W.setTop g) U ∧ U.status = .running ∧ Ended U below (.threw a) ∧ s.WarmedH U.vm ∧ s.sameButNew ({ U with vm := s.vm } : State) locs cells slots ∧
      ∃ ce, U.heap[a]? = some ce ∧ s.vm.findClass cls = some ce.cls ∧ ce.vm = .none := by
  have pf := X.admits.platform
  have hmg : e.platform.magicAccessors = ({} : Platform).magicAccessors := by rw [pf]
  obtain ⟨T, Z0, L, -, V⟩ := ThrowableC.of_atoms (args := args) (by rw [pf]) (by rw [pf]) hmg (fun w hw => h w (xq_a hw))
  obtain ⟨Z, M, LZ, LM, hZ⟩ := Init0T.ofS_atoms (args := args) hmg L V (fun w hw => h w (xq_b hw))
  obtain ⟨Q, Qs, hlen, lk, hQ, ps⟩ := xq_chain hmg hZ hcls hnames h
  have hfQ := findClass_of_methodNamed hQ
  rw [show (Bundle.initS cls).cls = cls from rfl, hfX] at hfQ
  cases hfQ
  obtain ⟨c1, k1, i1, i2, hord, -, -, -⟩ := Cond.instantiable_spec (h _ (xq_e 1 rfl))
  rw [hfX] at i1
  cases i1
  rw [hkX] at i2
  cases i2
  have adm : ∀ (vm : Vm) (x : ClassId) (y : MethodId), selectMethod e.platform vm x y = selectMethod {} vm x y := Launch.admits_selectMethod X.admits
  have s0 := xq_sel adm hfX (State.methodFound?_of_named V.fill0 (by decide)) V.fill0 (h _ (xq_e 2 rfl))
  have s1 := xq_sel adm hfX (State.methodFound?_of_named V.fill (by decide)) V.fill (h _ (xq_e 3 rfl))
  obtain ⟨cS0, hS0, iS⟩ := V.statics
  obtain ⟨u0, hu0⟩ := Cond.staticRefV V.unassigned L.unassignedStatic L.statics hS0 iS (h _ (xq_e 9 rfl))
  obtain ⟨sn, hsn⟩ := Cond.staticRefV V.sentinel L.sentinelStatic L.statics hS0 iS (h _ (xq_e 10 rfl))
  obtain ⟨ci, ix, fB, b1, b2, b3, b4, -, nB, tB, ffB⟩ := Cond.ownField (t := .object "java/lang/Object") V.found L.cls (by decide +kernel) (h _ (xq_e 11 rfl)) (h _ (xq_e 12 rfl)) e.platform hmg
  obtain ⟨cS, hS, eS, -, keep⟩ := X.same.2.2.2.2.2 T.aS cS0 hS0
  have outS : ∀ i, (⟨T.aS, i⟩ : Loc) ∉ locs := fun i hm => by
    have := hlocs _ hm cS0 hS0
    rw [iS] at this
    cases this
  have knS : cS.vm ≠ .unknown := fun hk => by
    rw [eS] at hk
    rw [hk] at iS
    cases iS
  have neS : T.aS ≠ a := Nat.ne_of_lt (Nat.lt_of_lt_of_le (Array.getElem?_eq_some_iff.mp hS0).1 hnew)
  obtain ⟨iM, ffM⟩ := V.msg
  obtain ⟨yC, dC, eC, nC⟩ := Cond.laysAt hfX hkX V.cause (h _ (xq_e 4 rfl))
  obtain ⟨yS, dS, eS2, nS⟩ := Cond.laysAt hfX hkX V.stack (h _ (xq_e 5 rfl))
  obtain ⟨yP, dP, eP, nP⟩ := Cond.laysAt hfX hkX V.supp (h _ (xq_e 6 rfl))
  obtain ⟨yM, dM, eM, nM⟩ := Cond.laysAt hfX hkX ffM (h _ (xq_e 7 rfl))
  obtain ⟨yB, dB, eB, nB2⟩ := Cond.laysAt hfX hkX ffB (h _ (xq_e 8 rfl))
  have aC := Cond.laysApart eB eC nB2 nC (by rw [nB, V.causeName]; decide)
  have aS := Cond.laysApart eB eS2 nB2 nS (by rw [nB, V.stackName]; decide)
  have aP := Cond.laysApart eB eP nB2 nP (by rw [nB, V.suppName]; decide)
  have sk : SkipFacts T e.platform s (fun u => u) u0 ((preparedCellV T.toThrowableT (freshCell Q.m.cls kX) a u0 sn).withEntry W.cur) :=
    ⟨{ ci198 := ci, i198 := ix, fBack := fB }, ⟨b1, b2, b3, b4⟩, by
      have d := fresh_default (c := Q.m.cls) yB
      rw [tB] at d
      simpa [preparedCellV, Cell.setSlot, Cell.withEntry, Array.getElem?_setIfInBounds, aC, aS, aP, aC.symm, aS.symm, aP.symm, defaultValue] using d, fun _ _ => rfl⟩
  obtain ⟨tm, mC, cC, kC, vm₁, hnC, -, -, -, -, -, -, -, hW₁, st1⟩ := Steps.initColdS (tb := p.tables) (e := e) (below := below) (s := s) (U := W) X.here hexec X.warmed hmg hown (t := Bundle.initS cls) rfl rfl (Bundle.fit_spec hcls).2
    (h _ (xq_e 0 rfl)) (h (.instanceMethod (Bundle.initS cls)) (xq_c (by simp [Bundle.passSAtoms]))) (bytes := nsB) (maxL := 2) (h (.code (Bundle.initS cls) nsB 2 none) (xq_c (by simp [Bundle.passSAtoms])))
    (f := g) hg (a := a) (msg := msg) (rest := .ref a :: rest) hstack hd6
  cases Option.some.inj (hnC.symm.trans hQ)
  obtain ⟨vm₂, X₂, st2⟩ := (X.noted hW₁).ctorMessageOffV hexec (g := { g with stack := .ref a :: rest }) hg hsize T L Z LZ M LM (Q :: Qs) lk ps (u0 := u0) (sen := sn) (self := a) hmsg (cell := freshCell Q.m.cls kX) (cellS := cS)
    hcell (fun _ => by simp) (by simp) rfl rfl s0 s1 hS neS knS (by rw [keep _ (outS _)]; exact hu0) (by rw [keep _ (outS _)]; exact hsn)
    (Takes.of_laid hkX hord yC (by rw [V.causeType]; rfl)) (Takes.of_laid hkX hord yS (by rw [V.stackType]; exact fits_refV_array _ u0)) (Takes.of_laid hkX hord yP (by rw [V.suppType]; exact fits_refV_object _ sn))
    (Takes.of_laid hkX hord yM (by rw [V.msgType]; exact fits_refV_object _ ⟨msg, hmsg⟩)) V.objLocals sk htr [] hd6
    (by rw [List.length_cons, hlen]; omega) (by rw [List.length_cons (a := Q), hlen]; exact hRl)
  obtain ⟨walk, run, ended, hWU, same⟩ := X₂.athrowLeaves hexec (g := { g with stack := .ref a :: rest, pc := g.pc + 3 }) hg hlocked hentered hout (a := a) (rest := rest) rfl hd9
  refine ⟨_, st1 _ (fun acts => by rw [doInvoke_state]; exact st2 _ walk), run, ended, hWU, same.weaken (fun y hy hlt => ?_) (Nat.le_refl _) (Nat.le_refl _), _, heapAt_setCell_self (s := (W.setVm vm₁).setVm vm₂) _ (Array.getElem?_eq_some_iff.mp hcell).1, hfX, rfl⟩
  rcases List.mem_append.mp hy with h1 | h1
  · exact h1
  · exfalso
    have hb : y.base = a := by
      simp only [List.mem_cons, List.not_mem_nil, or_false] at h1
      rcases h1 with rfl | rfl | rfl | rfl | rfl <;> rfl
    rw [hb] at hlt
    exact Nat.not_lt.mpr hnew hlt
end NQ3
section NQ1
variable {p : Program} {l : Launch} {e : Env} {R : Room} {s : State} {m : MethodId} {args : Array Value} {below : List Frame} {meth : Method} {c : Code} {H : Heap} {locs : List Loc} {cells slots : Nat} {Q : State → Prop}
variable {mc ms : Nat} {free : Addr → Prop} {A0 A1 : Nat → Prop} {H0 : Heap} {a : Array Value} {ls : Array Slot} {st0 rest : List Value}
variable {Qc : Array Value → State → Outcome → State → Prop} {XC : String → State → State → Prop}
set_option maxHeartbeats 1000000 in
theorem xq_throwS {cc : ByteArray} {pc : Nat} (hexec : p.tables.exec = Jvm.exec) (hb : c.code = cc) (hl : l.stackTraces = false) {own cls text Y : String} {r : List String} {ik is ic mc ms sa : Nat} {A : Nat → Prop}
    (hown : s.vm.findClass own = some m.cls) (hcls : Bundle.fit cls = true) (hnames : ∀ n ∈ Y :: r, Bundle.fit n = true)
    (hk : (Cond.classLink own ik cls).before args s = true) (hini : (Cond.initialized cls).before args s = true) (hstr : vk_R own is text sa s) (hat : ∀ w ∈ xq_at own ic cls (Y :: r), w.before args s = true)
    (hgood : ∀ w ∈ Cond.classLink own ik cls :: Cond.initialized cls :: xq_at own ic cls (Y :: r), vx_ot w = true)
    (hU : vx_Zq Bundle.tN "UNASSIGNED_STACK" Bundle.steD A s s.heap) (hN : vx_Zq Bundle.tN "SUPPRESSED_SENTINEL" Bundle.listD A s s.heap) (hS : va_S A s.heap H locs) (hsize : ls.size = c.maxLocals)
    (d0 : decode cc pc = .ok (.new ik, 3)) (d3 : decode cc (pc + 3) = .ok (.dup, 1)) (d4 : decode cc (pc + 4) = .ok (.ldc is, 2)) (d6 : decode cc (pc + 6) = .ok (.invokespecial ic, 3)) (d9 : decode cc (pc + 9) = .ok (.athrow, 1))
    (hout : ∀ x ∈ c.exceptionTable.toList, covers x (pc + 9) = false)
    (hRframes : (Y :: r).length + 3 < R.frames) (hRlocals : (rest.map fun v => v.category).sum + (13 * ((Y :: r).length + 1) + 43) ≤ R.locals) (hRcells : cells + 1 ≤ R.cells) (hRslots : slots + 6 ≤ R.slots) (hlocks : meth.locks = false)
    (hx : ∀ t : State, s.vm.Alike t.vm → H.size ≤ t.heap.size → (∀ q : Nat, q < H.size → t.heap[q]? = H[q]?) → XC cls s t)
    (hf : ∀ z ∈ locs, free z.base) (hc : cells + 1 ≤ mc) (hs : slots + 6 ≤ ms) :
    W p l e R s m args below meth c H locs cells slots (vx_MQ below Qc XC args s mc ms free) (F0 m pc ls rest) := by
  intro T hT X
  have htr : e.platform.stackTraces = false := (show e.platform.stackTraces = l.stackTraces by rw [X.admits.platform]).trans hl
  have Y0 := vx_rebase X (R' := { frames := R.frames, locals := R.locals, cells := 1, slots := 6 }) (Nat.le_refl _) (Nat.le_refl _) hRcells hRslots
  obtain ⟨s', hA⟩ : ∃ z, z = (T.setVm s.vm).setFrames (.invoking m args :: below) := ⟨_, rfl⟩
  rw [← hA] at Y0
  have hvm : s'.vm = s.vm := by rw [hA]; rfl
  have hhp : s'.heap = H := by rw [hA]; exact hT
  have hW0 : s.WarmedH s'.vm := by rw [hvm]; exact State.WarmedH.refl s
  have hat' : ∀ w ∈ xq_at own ic cls (Y :: r), w.before args s' = true := fun w hw => vx_ot_at hW0 hvm.symm (hgood w (List.mem_cons_of_mem _ (List.mem_cons_of_mem _ hw))) (hat w hw)
  have hk' : (Cond.classLink own ik cls).before args s' = true := vx_ot_at hW0 hvm.symm (hgood _ List.mem_cons_self) hk
  have hini' : (Cond.initialized cls).before args s' = true := vx_ot_at hW0 hvm.symm (hgood _ (List.mem_cons_of_mem _ List.mem_cons_self)) hini
  have hU' : vx_Zq Bundle.tN "UNASSIGNED_STACK" Bundle.steD A s' s'.heap := by rw [hhp]; exact vx_Zq.moved hW0.alike (hU.kept hS.2.1)
  have hN' : vx_Zq Bundle.tN "SUPPRESSED_SENTINEL" Bundle.listD A s' s'.heap := by rw [hhp]; exact vx_Zq.moved hW0.alike (hN.kept hS.2.1)
  have h : ∀ w ∈ xq_own own ic cls Y r, w.before args s' = true := vx_own (L := xq_own own ic cls Y r) hat' (vx_isRefq hU'.1) (vx_isRefq hN'.1) hU'.2.word hN'.2.word
  have hown' : s'.vm.findClass own = some m.cls := by rw [hvm]; exact hown
  have hins : (Cond.instantiable cls 6).before args s' = true := h _ (xq_e 1 rfl)
  obtain ⟨vm₁, cX, kX, hfX, hkX, -, -, X₁, st1⟩ := Y0.newCold hexec (own := own) (C := cls) (index := ik) (n := 6) hown' hk' hins hini'
    (g := F0 m pc ls rest) rfl (by rw [hb]; exact d0) (Nat.le_refl _) (Nat.le_refl _)
  generalize hT1 : (T.setVm vm₁).pushCell { cls := cX, slots := kX.instanceTypes.map defaultValue, vm := .none } = T1 at X₁ st1
  have hcat : (Value.ref T.heap.size).category = 1 := rfl
  have hcellA : T1.heap[T.heap.size]? = some (freshCell cX kX) := by rw [← hT1]; exact State.heap_pushCell_size _ _
  have d3' : decode c.code (pc + 3) = .ok (.dup, 1) := by rw [hb]; exact d3
  have d4' : decode c.code (pc + 4) = .ok (.ldc is, 2) := by rw [hb]; exact d4
  have hstr' : vk_R own is text sa s' := vk_R.warm hW0 hstr
  obtain ⟨U, hsteps, hrun, hend, hW, hsame, ce, hce, hO⟩ := xq_ctor X₁ hexec htr (own := own) (cls := cls) (Y := Y) (r := r) (ic := ic) hown' hcls hnames h (fun x hx => nomatch hx) hfX hkX hcellA (by rw [hhp, hT]; exact Nat.le_refl _) (msg := .ref sa) rfl
    (g := { method := m, pc := pc + 6, locals := ls, stack := .ref sa :: .ref T.heap.size :: .ref T.heap.size :: rest, locked := none }) rfl hsize rfl rfl (rest := rest) rfl
    (by rw [hb]; exact d6) (by rw [hb]; exact d9) hout hRframes (by simp only [List.map_cons, List.sum_cons, hcat]; omega) hlocks
  obtain ⟨f1, f2⟩ := vx_frame hsame
  rw [hhp] at f1 f2
  have hWs : s.WarmedH U.vm := State.WarmedH.trans hW0 hW
  have hcl : s.vm.findClass cls = some ce.cls := by
    have h9 := hO.1
    rw [hvm] at h9
    exact h9
  have hall : s.sameButNew ({ U with vm := s.vm } : State) locs mc ms := by
    subst hA
    obtain ⟨e1, e2⟩ := hsame
    rw [State.setFrames_setFrames] at e1
    have h2 : (T.setVm s.vm).sameButNew ({ U with vm := s.vm } : State) [] (0 + 1) (0 + 6) := ⟨e1, e2⟩
    have h3 := X.same.trans h2
    rw [List.append_nil] at h3
    exact h3.mono hc hs
  refine ⟨U, ?_, .threw T.heap.size, hrun, hend, Or.inr ⟨T.heap.size, rfl, cls, ce, locs, hx U hWs.alike f1 (fun q hq => f2 q hq (fun z hz => nomatch hz)), hce, hO.2, hcl, hWs, hall, hf⟩⟩
  refine st1 _ ?_
  show Steps p.tables e below (T1.setTop { method := m, pc := pc + 3, locals := ls, stack := .ref T.heap.size :: rest, locked := none }) _
  jvm_step X₁.here [X₁.here.top, hexec, d3', Value.category]
  exact X₁.ldcString hexec (own := own) (text := text) (index := is) (a := sa) hown' hstr'.1 hstr'.2
    (g := { method := m, pc := pc + 4, locals := ls, stack := .ref T.heap.size :: .ref T.heap.size :: rest, locked := none }) rfl d4' _ hsteps
set_option maxHeartbeats 1000000 in
theorem xq_throwSW {cc : ByteArray} {pc : Nat} (hexec : p.tables.exec = Jvm.exec) (hb : c.code = cc) (hl : l.stackTraces = false) {own cls text Y : String} {r : List String} {ik is ic mc ms sa : Nat} {A : Nat → Prop}
    (hown : s.vm.findClass own = some m.cls) (hcls : Bundle.fit cls = true) (hnames : ∀ n ∈ Y :: r, Bundle.fit n = true)
    (hk : (Cond.classLink own ik cls).before args s = true) (hini : (Cond.initialized cls).before args s = true) (hstr : vk_R own is text sa s) (hat : ∀ w ∈ xq_at own ic cls (Y :: r), w.before args s = true)
    (hgood : ∀ w ∈ Cond.classLink own ik cls :: Cond.initialized cls :: xq_at own ic cls (Y :: r), vx_ot w = true)
    (hU : vx_Zq Bundle.tN "UNASSIGNED_STACK" Bundle.steD A s s.heap) (hN : vx_Zq Bundle.tN "SUPPRESSED_SENTINEL" Bundle.listD A s s.heap) (hS : va_S A s.heap H locs) (hsize : ls.size = c.maxLocals)
    (d0 : decode cc pc = .ok (.new ik, 3)) (d3 : decode cc (pc + 3) = .ok (.dup, 1)) (d4 : decode cc (pc + 4) = .ok (.ldc_w is, 3)) (d7 : decode cc (pc + 7) = .ok (.invokespecial ic, 3)) (d10 : decode cc (pc + 10) = .ok (.athrow, 1))
    (hout : ∀ x ∈ c.exceptionTable.toList, covers x (pc + 10) = false)
    (hRframes : (Y :: r).length + 3 < R.frames) (hRlocals : (rest.map fun v => v.category).sum + (13 * ((Y :: r).length + 1) + 43) ≤ R.locals) (hRcells : cells + 1 ≤ R.cells) (hRslots : slots + 6 ≤ R.slots) (hlocks : meth.locks = false)
    (hx : ∀ t : State, s.vm.Alike t.vm → H.size ≤ t.heap.size → (∀ q : Nat, q < H.size → t.heap[q]? = H[q]?) → XC cls s t)
    (hf : ∀ z ∈ locs, free z.base) (hc : cells + 1 ≤ mc) (hs : slots + 6 ≤ ms) :
    W p l e R s m args below meth c H locs cells slots (vx_MQ below Qc XC args s mc ms free) (F0 m pc ls rest) := by
  intro T hT X
  have htr : e.platform.stackTraces = false := (show e.platform.stackTraces = l.stackTraces by rw [X.admits.platform]).trans hl
  have Y0 := vx_rebase X (R' := { frames := R.frames, locals := R.locals, cells := 1, slots := 6 }) (Nat.le_refl _) (Nat.le_refl _) hRcells hRslots
  obtain ⟨s', hA⟩ : ∃ z, z = (T.setVm s.vm).setFrames (.invoking m args :: below) := ⟨_, rfl⟩
  rw [← hA] at Y0
  have hvm : s'.vm = s.vm := by rw [hA]; rfl
  have hhp : s'.heap = H := by rw [hA]; exact hT
  have hW0 : s.WarmedH s'.vm := by rw [hvm]; exact State.WarmedH.refl s
  have hat' : ∀ w ∈ xq_at own ic cls (Y :: r), w.before args s' = true := fun w hw => vx_ot_at hW0 hvm.symm (hgood w (List.mem_cons_of_mem _ (List.mem_cons_of_mem _ hw))) (hat w hw)
  have hk' : (Cond.classLink own ik cls).before args s' = true := vx_ot_at hW0 hvm.symm (hgood _ List.mem_cons_self) hk
  have hini' : (Cond.initialized cls).before args s' = true := vx_ot_at hW0 hvm.symm (hgood _ (List.mem_cons_of_mem _ List.mem_cons_self)) hini
  have hU' : vx_Zq Bundle.tN "UNASSIGNED_STACK" Bundle.steD A s' s'.heap := by rw [hhp]; exact vx_Zq.moved hW0.alike (hU.kept hS.2.1)
  have hN' : vx_Zq Bundle.tN "SUPPRESSED_SENTINEL" Bundle.listD A s' s'.heap := by rw [hhp]; exact vx_Zq.moved hW0.alike (hN.kept hS.2.1)
  have h : ∀ w ∈ xq_own own ic cls Y r, w.before args s' = true := vx_own (L := xq_own own ic cls Y r) hat' (vx_isRefq hU'.1) (vx_isRefq hN'.1) hU'.2.word hN'.2.word
  have hown' : s'.vm.findClass own = some m.cls := by rw [hvm]; exact hown
  have hins : (Cond.instantiable cls 6).before args s' = true := h _ (xq_e 1 rfl)
  obtain ⟨vm₁, cX, kX, hfX, hkX, -, -, X₁, st1⟩ := Y0.newCold hexec (own := own) (C := cls) (index := ik) (n := 6) hown' hk' hins hini'
    (g := F0 m pc ls rest) rfl (by rw [hb]; exact d0) (Nat.le_refl _) (Nat.le_refl _)
  generalize hT1 : (T.setVm vm₁).pushCell { cls := cX, slots := kX.instanceTypes.map defaultValue, vm := .none } = T1 at X₁ st1
  have hcat : (Value.ref T.heap.size).category = 1 := rfl
  have hcellA : T1.heap[T.heap.size]? = some (freshCell cX kX) := by rw [← hT1]; exact State.heap_pushCell_size _ _
  have d3' : decode c.code (pc + 3) = .ok (.dup, 1) := by rw [hb]; exact d3
  have d4' : decode c.code (pc + 4) = .ok (.ldc_w is, 3) := by rw [hb]; exact d4
  have hstr' : vk_R own is text sa s' := vk_R.warm hW0 hstr
  obtain ⟨U, hsteps, hrun, hend, hW, hsame, ce, hce, hO⟩ := xq_ctor X₁ hexec htr (own := own) (cls := cls) (Y := Y) (r := r) (ic := ic) hown' hcls hnames h (fun x hx => nomatch hx) hfX hkX hcellA (by rw [hhp, hT]; exact Nat.le_refl _) (msg := .ref sa) rfl
    (g := { method := m, pc := pc + 7, locals := ls, stack := .ref sa :: .ref T.heap.size :: .ref T.heap.size :: rest, locked := none }) rfl hsize rfl rfl (rest := rest) rfl
    (by rw [hb]; exact d7) (by rw [hb]; exact d10) hout hRframes (by simp only [List.map_cons, List.sum_cons, hcat]; omega) hlocks
  obtain ⟨f1, f2⟩ := vx_frame hsame
  rw [hhp] at f1 f2
  have hWs : s.WarmedH U.vm := State.WarmedH.trans hW0 hW
  have hcl : s.vm.findClass cls = some ce.cls := by
    have h9 := hO.1
    rw [hvm] at h9
    exact h9
  have hall : s.sameButNew ({ U with vm := s.vm } : State) locs mc ms := by
    subst hA
    obtain ⟨e1, e2⟩ := hsame
    rw [State.setFrames_setFrames] at e1
    have h2 : (T.setVm s.vm).sameButNew ({ U with vm := s.vm } : State) [] (0 + 1) (0 + 6) := ⟨e1, e2⟩
    have h3 := X.same.trans h2
    rw [List.append_nil] at h3
    exact h3.mono hc hs
  refine ⟨U, ?_, .threw T.heap.size, hrun, hend, Or.inr ⟨T.heap.size, rfl, cls, ce, locs, hx U hWs.alike f1 (fun q hq => f2 q hq (fun z hz => nomatch hz)), hce, hO.2, hcl, hWs, hall, hf⟩⟩
  refine st1 _ ?_
  show Steps p.tables e below (T1.setTop { method := m, pc := pc + 3, locals := ls, stack := .ref T.heap.size :: rest, locked := none }) _
  jvm_step X₁.here [X₁.here.top, hexec, d3', Value.category]
  exact X₁.ldcStringW hexec (own := own) (text := text) (index := is) (a := sa) hown' hstr'.1 hstr'.2
    (g := { method := m, pc := pc + 4, locals := ls, stack := .ref T.heap.size :: .ref T.heap.size :: rest, locked := none }) rfl d4' _ hsteps
end NQ1
section NQ2
variable {X : GXt} {cc : ByteArray} {own : String} {Ts : List Cond} {tys : List (ClassId × FieldType)} {sd : xSd} {cl sl : Nat} {ws : va_W} {lv : List (Nat × Value)} {pc : Nat} {rest : List Value} {R0 : Room}
theorem hatQ_in {own cls : String} {ic : Nat} {names : List String} {A : Nat → Prop} {args : Array Value} {s : State} {H : Heap} (hts : ∀ w ∈ Ts, w.before args s = true) (hF : SFx sd A s H) (hcls : cls ∈ xSix) (h : ∀ w ∈ (xq_at own ic cls names).filter goodWord, w ∈ Ts) (h2 : ∀ w ∈ (xq_at own ic cls names).filter (fun w => !goodWord w), w ∈ xBad cls) : ∀ w ∈ xq_at own ic cls names, w.before args s = true := by
  refine vx_hat (B := xBad cls) (fun w hw => hts w (h w hw)) h2 (fun w hw => ?_)
  rcases List.mem_cons.mp hw with rfl | hw
  · exact va_Nw.use rfl (hF.2.2.2.2.2.2.2.1.2.2.2.1 cls hcls)
  · obtain ⟨x, hx, rfl⟩ := List.mem_map.mp hw
    exact va_Nw.use rfl (hF.2.2.2.2.2.2.2.1.2.2.1 x hx)
set_option maxHeartbeats 1000000 in
theorem g_throwQ {S SX : Type} {rv : S → Option Value} {post : S → Prop} {wo : S → va_W} {woX : SX → va_W} {postX : String → SX → Prop} {mc ms ik is ic : Nat} {cls text Y : String} {r : List String} (K : Cx X cc "RecyclingSorter" Ts tys sd) (E : X.2.2.2.2.2.2.2.2.2.2.1 = xMQX X rv post wo woX postX mc ms) (hT : X.2.1.stackTraces = false) (hR : X.2.2.2.1 = R0) (hex : ∀ x ∈ (gxc X).exceptionTable.toList, False)
    (u : SX) (hp : postX cls u) (hwo : woX u = ws) (hcls : Bundle.fit cls = true) (hnames : ∀ n ∈ Y :: r, Bundle.fit n = true) (hk : Cond.classLink "RecyclingSorter" ik cls ∈ Ts) (hini : Cond.initialized cls ∈ Ts) (htx : (is, text) ∈ xEx) (hat : ∀ w ∈ (xq_at "RecyclingSorter" ic cls (Y :: r)).filter goodWord, w ∈ Ts) (hsix : cls ∈ xSix) (h2 : ∀ w ∈ (xq_at "RecyclingSorter" ic cls (Y :: r)).filter (fun w => !goodWord w), w ∈ xBad cls)
    (hgood : ∀ w ∈ Cond.classLink "RecyclingSorter" ik cls :: Cond.initialized cls :: xq_at "RecyclingSorter" ic cls (Y :: r), vx_ot w = true)
    (hrf : (Y :: r).length + 3 < R0.frames) (hrl : 8 + (13 * ((Y :: r).length + 1) + 43) ≤ R0.locals) (hcat : (rest.map fun v => v.category).sum ≤ 8) (hrc : cl + 1 ≤ R0.cells) (hrs : sl + 6 ≤ R0.slots) (hc : cl + 1 ≤ mc) (hs : sl + 6 ≤ ms)
    (d0 : decode cc pc = .ok (.new ik, 3)) (d3 : decode cc (pc + 3) = .ok (.dup, 1)) (d4 : decode cc (pc + 4) = .ok (.ldc is, 2)) (d6 : decode cc (pc + 6) = .ok (.invokespecial ic, 3)) (d9 : decode cc (pc + 9) = .ok (.athrow, 1)) : Gx X cl sl ws lv pc rest := by
  intro H locs ls hP hD hS hl
  show W _ _ _ _ _ _ _ _ _ _ H locs cl sl X.2.2.2.2.2.2.2.2.2.2.1 _
  rw [E]
  obtain ⟨sa, hstr⟩ := K.2.2.2.1.2.2.2.2.2.2.1 _ htx
  have ht := K.1.2.2.2.2
  exact xq_throwS (text := text) K.1.1 K.1.2.1 hT K.1.2.2.2.1 hcls hnames (ht _ hk) (ht _ hini) hstr (hatQ_in ht K.2.2.2.1 hsix hat h2) hgood K.2.2.2.1.2.2.1 K.2.2.2.1.2.2.2.1 hS (hl.1.trans K.1.2.2.1.symm) d0 d3 d4 d6 d9 (fun x hx => (hex x hx).elim) (by rw [hR]; exact hrf) (by rw [hR]; omega) (by rw [hR]; exact hrc) (by rw [hR]; exact hrs) K.2.2.2.2
    (fun t hA hz hk => ⟨u, hp, by rw [hwo]; exact fun k q hq => (hP k q hq).kept (hk q.1 (hP k q hq).lt), by rw [hwo]; exact hD, ⟨Nat.le_trans hS.1 hz, fun q h1 h2 => by rw [hk q (Nat.lt_of_lt_of_le h1 hS.1)]; exact hS.2.1 q h1 h2⟩⟩) hS.2.2 hc hs
set_option maxHeartbeats 1000000 in
theorem g_throwQW {S SX : Type} {rv : S → Option Value} {post : S → Prop} {wo : S → va_W} {woX : SX → va_W} {postX : String → SX → Prop} {mc ms ik is ic : Nat} {cls text Y : String} {r : List String} (K : Cx X cc "RecyclingSorter" Ts tys sd) (E : X.2.2.2.2.2.2.2.2.2.2.1 = xMQX X rv post wo woX postX mc ms) (hT : X.2.1.stackTraces = false) (hR : X.2.2.2.1 = R0) (hex : ∀ x ∈ (gxc X).exceptionTable.toList, False)
    (u : SX) (hp : postX cls u) (hwo : woX u = ws) (hcls : Bundle.fit cls = true) (hnames : ∀ n ∈ Y :: r, Bundle.fit n = true) (hk : Cond.classLink "RecyclingSorter" ik cls ∈ Ts) (hini : Cond.initialized cls ∈ Ts) (htx : (is, text) ∈ xEx) (hat : ∀ w ∈ (xq_at "RecyclingSorter" ic cls (Y :: r)).filter goodWord, w ∈ Ts) (hsix : cls ∈ xSix) (h2 : ∀ w ∈ (xq_at "RecyclingSorter" ic cls (Y :: r)).filter (fun w => !goodWord w), w ∈ xBad cls)
    (hgood : ∀ w ∈ Cond.classLink "RecyclingSorter" ik cls :: Cond.initialized cls :: xq_at "RecyclingSorter" ic cls (Y :: r), vx_ot w = true)
    (hrf : (Y :: r).length + 3 < R0.frames) (hrl : 8 + (13 * ((Y :: r).length + 1) + 43) ≤ R0.locals) (hcat : (rest.map fun v => v.category).sum ≤ 8) (hrc : cl + 1 ≤ R0.cells) (hrs : sl + 6 ≤ R0.slots) (hc : cl + 1 ≤ mc) (hs : sl + 6 ≤ ms)
    (d0 : decode cc pc = .ok (.new ik, 3)) (d3 : decode cc (pc + 3) = .ok (.dup, 1)) (d4 : decode cc (pc + 4) = .ok (.ldc_w is, 3)) (d7 : decode cc (pc + 7) = .ok (.invokespecial ic, 3)) (d10 : decode cc (pc + 10) = .ok (.athrow, 1)) : Gx X cl sl ws lv pc rest := by
  intro H locs ls hP hD hS hl
  show W _ _ _ _ _ _ _ _ _ _ H locs cl sl X.2.2.2.2.2.2.2.2.2.2.1 _
  rw [E]
  obtain ⟨sa, hstr⟩ := K.2.2.2.1.2.2.2.2.2.2.1 _ htx
  have ht := K.1.2.2.2.2
  exact xq_throwSW (text := text) K.1.1 K.1.2.1 hT K.1.2.2.2.1 hcls hnames (ht _ hk) (ht _ hini) hstr (hatQ_in ht K.2.2.2.1 hsix hat h2) hgood K.2.2.2.1.2.2.1 K.2.2.2.1.2.2.2.1 hS (hl.1.trans K.1.2.2.1.symm) d0 d3 d4 d7 d10 (fun x hx => (hex x hx).elim) (by rw [hR]; exact hrf) (by rw [hR]; omega) (by rw [hR]; exact hrc) (by rw [hR]; exact hrs) K.2.2.2.2
    (fun t hA hz hk => ⟨u, hp, by rw [hwo]; exact fun k q hq => (hP k q hq).kept (hk q.1 (hP k q hq).lt), by rw [hwo]; exact hD, ⟨Nat.le_trans hS.1 hz, fun q h1 h2 => by rw [hk q (Nat.lt_of_lt_of_le h1 hS.1)]; exact hS.2.1 q h1 h2⟩⟩) hS.2.2 hc hs
end NQ2
