/-! ===== methods with a table of handlers ===== -/
set_option maxHeartbeats 1000000 in
theorem CtrW.of {l : Launch} {D : va_G} {tys : List (ClassId × FieldType)} {sd : xSd} {y : MethodName} {ws ws' : List Cond} {rm : Room} {av : List Value} {S : Type} {rv : S → Option Value} {wi : va_W} {wo : S → va_W} {post : S → Prop} {cc : ByteArray} {maxL : Nat} {ret : Option FieldType} {hh : List (Nat × Nat × Nat × Nat)} {lv0 : List (Nat × Value)}
    (hy : plainName y.cls = true) (hw : ws = Cond.codeWith y cc maxL ret hh :: ws') (hlen : (lg_sl av).length ≤ maxL) (hlv : lv_args 0 av = lv0)
    (body : ∀ X : GXt, X.2.1 = l → X.2.2.2.1 = rm → (gxmeth X).sig.returnType = ret → (gxc X).exceptionTable.toList = tableOf hh → gxD X = D → X.2.2.2.2.2.2.2.2.2.2.1 = xMQX X rv post wo (fun _ : Unit => []) (fun _ _ => False) rm.cells rm.slots → gxn X = maxL → Cx X cc y.cls ws tys sd → Gx X 0 0 wi lv0 0 []) : Ctr l D tys sd y ws rm av rv wi wo post := by
  intro sz
  have h : vx_Met l y ws rm (xPc D tys sd av wi sz) (Qg rv post (xB D (va_A wi sz) wo) (va_A wi sz)) (xXC D (va_A wi sz) (fun _ : Unit => []) (fun _ _ => False)) rm.cells rm.slots (va_A wi sz) := by
    refine vx_ofWH (cc := cc) (maxL := maxL) (ret := ret) (hh := hh) hy hw ?_
    intro p e s m args below meth c s₁ B hml hv
    obtain ⟨rfl, hsz, hP, hK, hD0, hSF⟩ := hv
    have hts := atoms_spec (ws := ws) B.pre
    have hown : s.vm.findClass y.cls = some m.cls := findClass_of_methodNamed B.named
    have htab : c.exceptionTable.toList = tableOf hh := vx_table (x := y) B (hts _ (by rw [hw]; exact List.mem_cons_self))
    subst hsz
    have hD := hD0.self (sz := s.heap.size)
    have hl := lv_entry av (n := maxL) hlen
    rw [hlv] at hl
    rw [lg_entry_eq]
    exact body (mkX p l e rm s m av.toArray below meth c (vx_MQ below (Qg rv post (xB D (va_A wi s.heap.size) wo) (va_A wi s.heap.size)) (xXC D (va_A wi s.heap.size) (fun _ : Unit => []) (fun _ _ => False)) av.toArray s rm.cells rm.slots (va_A wi s.heap.size)) D (va_A wi s.heap.size) maxL)
      rfl rfl B.returns htab rfl rfl rfl ⟨⟨B.exec, B.bytes, hml, hown, hts⟩, hK, fun q h => Or.inr h, hSF, B.notSynchronized⟩ s.heap [] _ hP hD va_S.rf hl
  refine MetFree.mono h (fun _ _ h => h) (fun _ _ _ _ _ h => h) (fun a st o t _ hq => ?_)
  rcases hq with hq | ⟨q, _, E, ce, L, ⟨u, hf, _⟩, _⟩
  · exact hq
  · exact hf.elim
section GW
variable {X : GXt} {cc : ByteArray} {own : String} {Ts : List Cond} {tys : List (ClassId × FieldType)} {sd : xSd} {cl sl : Nat} {ws : va_W} {lv : List (Nat × Value)} {pc : Nat} {R0 : Room}
theorem g_catch (K : Cx X cc own Ts tys sd) {tb : List ExceptionTableEntry} (htab : (gxc X).exceptionTable.toList = tb) (pre : List ExceptionTableEntry) (x : ExceptionTableEntry) (suf : List ExceptionTableEntry) (hs : tb = pre ++ x :: suf) {E : String} {st : List Value} (hpass : ∀ z ∈ pre, z.catchType ≠ 0 ∧ ∃ nm : String, Cond.classLink own z.catchType nm ∈ Ts ∧ nm ∈ xSix ∧ E ≠ nm) (hE : E ∈ xSix) (hcov : covers x pc = true) (h0 : x.catchType ≠ 0) (hlink : Cond.classLink own x.catchType E ∈ Ts) (kk : ∀ q : Nat, Gx X cl sl ws lv x.handlerPc [.ref q]) : GxX X cl sl ws lv pc st E := by
  intro H locs ls q9 ce hP hD hS hl h1 h2 h3
  have ht := K.1.2.2.2.2
  have hF := K.2.2.2.1.2.2.2.2.2.2.2.1
  exact vx_catch K.1.2.2.2.1 pre x suf (htab.trans hs) (fun z hz => by
    obtain ⟨a1, nm, a2, a3, a4⟩ := hpass z hz
    exact Or.inr ⟨a1, nm, ht _ a2, hF.2.2.2.2.1 E hE nm a3 a4⟩) hcov h0 (ht _ hlink) (va_Nw.use rfl (hF.2.2.2.1 E hE)) h1 h2 h3 (kk q9 H locs ls hP hD hS hl)
set_option maxHeartbeats 1000000 in
theorem g_callSW {y : MethodName} {ws_ ws9 : List Cond} {rm : Room} {st0 : List Value} {S : Type} {rv : S → Option Value} {wi : va_W} {wo ws' : S → va_W} {st' : S → List Value} {post : S → Prop} {n maxL index cl' sl' : Nat} {bytes : ByteArray} {ret : Option FieldType} {hh : List (Nat × Nat × Nat × Nat)} (K : Cx X cc own Ts tys sd) (hR : X.2.2.2.1 = R0) (As rest : List Value) (hM : Ctr X.2.1 (gxD X) tys sd y ws_ rm As rv wi wo post) (hG : GoodIn Ts (va_wsS own index y ws_)) (hw : ws_ = Cond.codeWith y bytes maxL ret hh :: ws9) (hy : yOk y n) (hn : As.length = n) (hrf : rm.frames + 1 ≤ R0.frames ∧ 8 + (maxL + 11) + rm.locals ≤ R0.locals) (hrc : cl + rm.cells ≤ R0.cells ∧ sl + rm.slots ≤ R0.slots)
    (hst0 : As.reverse ++ rest = st0) (hcat : (rest.map fun v => v.category).sum ≤ 8) (hd : decode cc pc = .ok (.invokestatic index, 3)) (is : List Nat) (hC : is.map (fun i => ws[i]?) = wi.map some) (hnd : va_nd is = true) (hf : ∀ u, (wo u).map Prod.fst = wi.map Prod.fst)
    (hws : ∀ u, updW ws is (wo u) = ws' u) (hst : ∀ u, (rv u).toList ++ rest = st' u) (hcl : cl + rm.cells = cl') (hsl : sl + rm.slots = sl') (kk : ∀ u, post u → Gx X cl' sl' (ws' u) lv (pc + 3) (st' u)) : Gx X cl sl ws lv pc st0 := by
  refine g_callX0 (av := As.toArray) (w1 := wo) (wn := fun _ => []) K is hC hnd (fun _ => List.append_nil _) hf (fun u => by rw [List.append_nil]; exact hws u) hst hcl hsl (fun H locs ls hP hD hS hl => ?_) kk
  have hpre := g_pre (av := As) K hP hD hS is hC hnd
  exact vx_runSW (As := As) (rest := rest) K.1 (hM H.size) (vx_cwSW n K.1.2.2.2.2 hG hw rfl rfl hy (by rw [hR]; exact hrf)) hpre rfl hn hl.1 hst0.symm (lv_room hcat) hd (by rw [hR]; exact hrc)
end GW
