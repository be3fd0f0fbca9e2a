/-! ===== level 3: the start ===== -/
theorem st_N {args : Array Value} {s : State} {T : Cond} (h : T.before args s = true) {L : List Cond} (hm : ∀ w ∈ L, w ∈ flatC T) : ∀ w ∈ L, w.before args s = true := fun w hw => flat_of_before T h w (hm w hw)
theorem st_neq {args : Array Value} {s : State} {t u : Term} {a q : Nat} (ht : t.eval args s none [] s = some (.ref a)) (hu : u.eval args s none [] s = some (.ref q)) (h : a ≠ q) : (Cond.not (.eq t u)).before args s = true := by
  simp [Cond.before, Cond.holds, Cond.value, ht, hu, h]
theorem st_len {args : Array Value} {s : State} {t u : Term} {a : Nat} {o n d : String} {x y : Int32} (ht : t.eval args s none [] s = some (.ref a)) (hu : u.eval args s none [] s = some (.ref a)) (hx : (Term.length (.field t o n d)).eval args s none [] s = some (.int x)) (hy : (Term.length (.field u o n d)).eval args s none [] s = some (.int y)) : x = y := by
  simp only [Term.eval, ht] at hx
  simp only [Term.eval, hu] at hy
  exact Value.int.inj (Option.some.inj (hx.symm.trans hy))
section ST0
variable {s : State} {b : Nat}
/-- the fault's constants -/
theorem st_En (hts : ∀ w ∈ lw_tbl, w.before #[Value.ref b] s = true) (hgv : (Jvm.Cond.and given_1 narrow_1).before #[Value.ref b] s = true) : ∃ ad : Nat → Nat, va_En "RecyclingSorter$Fault" xFd xFn [] ad (fun q => s.heap.size ≤ q) s s.heap := by
  have m1 : ∀ i, i < 4 → Cond.laysStatic "RecyclingSorter$Fault" (xFn.getD i "") xFd ∈ lw_tbl := by decide +kernel
  have m2 : Cond.initialized "RecyclingSorter$Fault" ∈ lw_tbl := by decide +kernel
  have m3 : ∀ i, i < 4 → Cond.exactly (.static "RecyclingSorter$Fault" (xFn.getD i "") xFd) "RecyclingSorter$Fault" ∈ flatC (Jvm.Cond.and given_1 narrow_1) := by decide +kernel
  have m4 : ∀ i, i < 4 → ∀ j, j < 4 → i ≠ j → Cond.not (.eq (.static "RecyclingSorter$Fault" (xFn.getD i "") xFd) (.static "RecyclingSorter$Fault" (xFn.getD j "") xFd)) ∈ flatC (Jvm.Cond.and given_1 narrow_1) ∨ Cond.not (.eq (.static "RecyclingSorter$Fault" (xFn.getD j "") xFd) (.static "RecyclingSorter$Fault" (xFn.getD i "") xFd)) ∈ flatC (Jvm.Cond.and given_1 narrow_1) := by decide +kernel
  exact va_Enof (args := #[Value.ref b]) (fun i hi => hts _ (m1 i hi)) (hts _ m2) (fun i hi => flat_of_before _ hgv _ (m3 i hi)) (fun q hq => absurd hq List.not_mem_nil) (fun i j hi hj hij => (m4 i hi j hj hij).imp (fun h => flat_of_before _ hgv _ h) (fun h => flat_of_before _ hgv _ h)) (fun a h => Nat.not_le.mpr h)
/-- the four rows of numbers -/
theorem st_Ar (hts : ∀ w ∈ lw_tbl, w.before #[Value.ref b] s = true) (hgv : (Jvm.Cond.and given_1 narrow_1).before #[Value.ref b] s = true) : ∃ ar : Nat → Nat, ∀ i, i < 4 → va_Z "RecyclingSorter" (xArrN i) "[I" (.ref (ar i)) (fun q => s.heap.size ≤ q) s s.heap ∧ va_T .int (ar i) 5 (fun j => .int ((xArrV i).getD j 0)) (fun q => s.heap.size ≤ q) s s.heap := by
  have m1 : ∀ i, i < 4 → Cond.laysStatic "RecyclingSorter" (xArrN i) "[I" ∈ lw_tbl := by decide +kernel
  have m2 : Cond.initialized "RecyclingSorter" ∈ lw_tbl := by decide +kernel
  have m3 : ∀ i, i < 4 → Cond.arrayOf (.static "RecyclingSorter" (xArrN i) "[I") .int ∈ flatC (Jvm.Cond.and given_1 narrow_1) := by decide +kernel
  have m4 : ∀ i, i < 4 → Cond.eq (.length (.static "RecyclingSorter" (xArrN i) "[I")) (.int (Int32.ofNat 5)) ∈ flatC (Jvm.Cond.and given_1 narrow_1) := by decide +kernel
  have m5 : ∀ i, i < 4 → ∀ j, j < 5 → Cond.eq (.elem (.static "RecyclingSorter" (xArrN i) "[I") (.int (Int32.ofNat j))) (.int ((xArrV i).getD j 0)) ∈ flatC (Jvm.Cond.and given_1 narrow_1) := by decide +kernel
  have h0 : ∀ i : Nat, ∃ t : Nat, i < 4 → va_Z "RecyclingSorter" (xArrN i) "[I" (.ref t) (fun q => s.heap.size ≤ q) s s.heap ∧ va_T .int t 5 (fun j => .int ((xArrV i).getD j 0)) (fun q => s.heap.size ≤ q) s s.heap := fun i => by
    by_cases hi : i < 4
    · obtain ⟨t, ht, hT⟩ := va_Tof (args := #[Value.ref b]) (s := s) (tm := .static "RecyclingSorter" (xArrN i) "[I") (ty := .int) (N := 5) (f := fun j => .int ((xArrV i).getD j 0)) (A := fun q => s.heap.size ≤ q) (by omega) (flat_of_before _ hgv _ (m3 i hi)) (va_eqt (flat_of_before _ hgv _ (m4 i hi))) (fun j hj => va_eqt (flat_of_before _ hgv _ (m5 i hi j hj))) (fun a h => Nat.not_le.mpr h)
      exact ⟨t, fun _ => ⟨va_Zref (hts _ (m1 i hi)) (hts _ m2) ht (fun a h => Nat.not_le.mpr h), hT⟩⟩
    · exact ⟨0, fun h => absurd h hi⟩
  obtain ⟨ar, har⟩ := Classical.axiomOfChoice h0
  exact ⟨ar, har⟩
/-- the texts whose signs are read -/
def stX (i : Nat) : Nat := (xTx.getD i (0, "")).1
theorem st_Tx (hts : ∀ w ∈ lw_tbl, w.before #[Value.ref b] s = true) (hgv : (Jvm.Cond.and given_1 narrow_1).before #[Value.ref b] s = true) : ∃ ak av : Nat → Nat, vk_S 4 xTl xTb ak av (fun q => s.heap.size ≤ q) s s.heap ∧ ∀ i q, xTx[i]? = some q → vk_R "RecyclingSorter$Text" q.1 q.2 (ak i) s := by
  have m1 : ∀ i, i < 4 → Cond.exactly (.string "RecyclingSorter$Text" (stX i)) "java/lang/String" ∈ flatC (Jvm.Cond.and given_1 narrow_1) := by decide +kernel
  have m2 : ∀ i, i < 4 → Cond.eq (.field (.string "RecyclingSorter$Text" (stX i)) "java/lang/String" "coder" "B") (.int 0) ∈ flatC (Jvm.Cond.and given_1 narrow_1) := by decide +kernel
  have m3 : ∀ i, i < 4 → Cond.arrayOf (.field (.string "RecyclingSorter$Text" (stX i)) "java/lang/String" "value" "[B") .byte ∈ flatC (Jvm.Cond.and given_1 narrow_1) := by decide +kernel
  have m4 : ∀ i, i < 4 → Cond.eq (.length (.field (.string "RecyclingSorter$Text" (stX i)) "java/lang/String" "value" "[B")) (.int (Int32.ofNat (xTl.getD i 0))) ∈ flatC (Jvm.Cond.and given_1 narrow_1) := by decide +kernel
  have m5 : ∀ i, i < 4 → ∀ j, j < xTl.getD i 0 → Cond.eq (.elem (.field (.string "RecyclingSorter$Text" (stX i)) "java/lang/String" "value" "[B") (.int (Int32.ofNat j))) (.int ((xTb.getD i []).getD j 0)) ∈ flatC (Jvm.Cond.and given_1 narrow_1) := by decide +kernel
  have m9 : ∀ i, i < 4 → ∀ j, j < 4 → i ≠ j → ¬ Int32.ofNat (xTl.getD i 0) = Int32.ofNat (xTl.getD j 0) := by decide
  have m6 : ∀ i j : Nat, i < 4 → j < 4 → i ≠ j → (Cond.not (Cond.eq (.string "RecyclingSorter$Text" (stX i)) (.string "RecyclingSorter$Text" (stX j)))).before #[Value.ref b] s = true := fun i j hi hj hij => by
    obtain ⟨a1, _, _, _, ha, _⟩ := Cond.exactly_spec (flat_of_before _ hgv _ (m1 i hi))
    obtain ⟨a2, _, _, _, hb, _⟩ := Cond.exactly_spec (flat_of_before _ hgv _ (m1 j hj))
    refine st_neq ha hb (fun e => ?_)
    subst e
    exact absurd (st_len ha hb (va_eqt (flat_of_before _ hgv _ (m4 i hi))) (va_eqt (flat_of_before _ hgv _ (m4 j hj)))) (m9 i hi j hj hij)
  have m7 : ∀ i, i < 4 → Cond.stringRef "RecyclingSorter$Text" (stX i) (xTx.getD i (0, "")).2 ∈ lw_tbl := by decide +kernel
  have m8 : ∀ i, i < 4 → xTl.getD i 0 < 8 := by decide
  obtain ⟨ak, av, hS, he⟩ := vk_Sof (args := #[Value.ref b]) (s := s) (N := 4) (tm := fun i => .string "RecyclingSorter$Text" (stX i)) (len := xTl) (byt := xTb) (A := fun q => s.heap.size ≤ q) (fun i hi => by have := m8 i hi; omega) (fun i hi => flat_of_before _ hgv _ (m1 i hi)) (fun i hi => flat_of_before _ hgv _ (m2 i hi)) (fun i hi => flat_of_before _ hgv _ (m3 i hi)) (fun i hi => flat_of_before _ hgv _ (m4 i hi)) (fun i hi j hj => flat_of_before _ hgv _ (m5 i hi j hj)) (fun i j hi hj hij => Or.inl (m6 i j hi hj hij)) (fun a h => Nat.not_le.mpr h)
  refine ⟨ak, av, hS, fun i q hq => ?_⟩
  have hi : i < 4 := (List.getElem?_eq_some_iff.mp hq).1
  have e : xTx.getD i (0, "") = q := by rw [List.getD_eq_getElem?_getD, hq]; rfl
  have e1 : stX i = q.1 := congrArg Prod.fst e
  have h7 := hts _ (m7 i hi)
  have h8 := he i hi
  rw [e] at h7
  rw [e1] at h7 h8
  exact vk_R.of h7 h8
/-- the exceptions' texts -/
theorem st_Ex (hts : ∀ w ∈ lw_tbl, w.before #[Value.ref b] s = true) (hgv : (Jvm.Cond.and given_1 narrow_1).before #[Value.ref b] s = true) : ∀ q ∈ xEx, ∃ a, vk_R "RecyclingSorter" q.1 q.2 a s := by
  have m1 : ∀ q ∈ xEx, Cond.stringRef "RecyclingSorter" q.1 q.2 ∈ lw_tbl := by decide +kernel
  have m2 : ∀ q ∈ xEx, Cond.exactly (.string "RecyclingSorter" q.1) "java/lang/String" ∈ flatC (Jvm.Cond.and given_1 narrow_1) := by decide +kernel
  intro q hq
  obtain ⟨a, c, cell, k, q1, _⟩ := Cond.exactly_spec (flat_of_before _ hgv _ (m2 q hq))
  exact ⟨a, vk_R.of (hts _ (m1 q hq)) q1⟩
theorem st_SF (hts : ∀ w ∈ lw_tbl, w.before #[Value.ref b] s = true) (hgv : (Jvm.Cond.and given_1 narrow_1).before #[Value.ref b] s = true) : ∃ sd : xSd, SFx sd (fun q => s.heap.size ≤ q) s s.heap := by
  obtain ⟨ad, h1⟩ := st_En hts hgv
  obtain ⟨ar, h2⟩ := st_Ar hts hgv
  obtain ⟨ak, av, h3, h4⟩ := st_Tx hts hgv
  have hA : ∀ a : Nat, a < s.heap.size → ¬ s.heap.size ≤ a := fun a h => Nat.not_le.mpr h
  have n1 : Cond.laysStatic Bundle.tN "UNASSIGNED_STACK" Bundle.steD ∈ lw_tbl := by decide +kernel
  have n2 : Cond.laysStatic Bundle.tN "SUPPRESSED_SENTINEL" Bundle.listD ∈ lw_tbl := by decide +kernel
  have n3 : Cond.initialized Bundle.tN ∈ lw_tbl := by decide +kernel
  have n4 : Cond.isRef (.static Bundle.tN "UNASSIGNED_STACK" Bundle.steD) ∈ flatC (Jvm.Cond.and given_1 narrow_1) := by decide +kernel
  have n5 : Cond.isRef (.static Bundle.tN "SUPPRESSED_SENTINEL" Bundle.listD) ∈ flatC (Jvm.Cond.and given_1 narrow_1) := by decide +kernel
  have n6 : Cond.laysStatic "java/lang/String" "COMPACT_STRINGS" "Z" ∈ lw_tbl := by decide +kernel
  have n7 : Cond.initialized "java/lang/String" ∈ lw_tbl := by decide +kernel
  have n8 : Cond.eq (.static "java/lang/String" "COMPACT_STRINGS" "Z") (.int 1) ∈ flatC (Jvm.Cond.and given_1 narrow_1) := by decide +kernel
  have n9 : Cond.laysStatic "jdk/internal/util/Preconditions" "SIOOBE_FORMATTER" "Ljava/util/function/BiFunction;" ∈ lw_tbl := by decide +kernel
  have n10 : Cond.initialized "jdk/internal/util/Preconditions" ∈ lw_tbl := by decide +kernel
  have n11 : Cond.isRef (.static "jdk/internal/util/Preconditions" "SIOOBE_FORMATTER" "Ljava/util/function/BiFunction;") ∈ flatC (Jvm.Cond.and given_1 narrow_1) := by decide +kernel
  have n12 : ∀ x ∈ xDecl, Cond.declares x ∈ lw_tbl := by decide +kernel
  have n13 : ∀ q ∈ xSix, Cond.castable q q ∈ lw_tbl := by decide +kernel
  have n14 : ∀ q ∈ xSix, ∀ q' ∈ xSix, q ≠ q' → Cond.not (.castable q q') ∈ flatC (Jvm.Cond.and given_1 narrow_1) := by decide +kernel
  have n15 : Cond.arrayOver (.object "RecyclingSorter$Plant") ∈ lw_tbl := by decide +kernel
  have n16 : ∀ q ∈ xNest, Cond.methodLinkNest q.1 q.2.1 q.2.2.1 q.2.2.2 ∈ lw_tbl := by decide +kernel
  exact ⟨(ad, ar, ak, av), h1, h2, vx_Zqof (hts _ n1) (hts _ n3) (flat_of_before _ hgv _ n4) hA, vx_Zqof (hts _ n2) (hts _ n3) (flat_of_before _ hgv _ n5) hA, h3, h4, st_Ex hts hgv, ⟨va_Zof (hts _ n6) (hts _ n7) (va_eqt (flat_of_before _ hgv _ n8)) hA, va_Zqof (hts _ n9) (hts _ n10) (flat_of_before _ hgv _ n11) hA, fun x hx => va_Nw.of rfl (hts _ (n12 x hx)), fun x hx => va_Nw.of rfl (hts _ (n13 x hx)), fun x hx y hy hxy => va_Nc.of (flat_of_before _ hgv _ (n14 x hx y hy hxy)), va_AO.of (hts _ n15)⟩, fun q hq => va_Nw.of rfl (hts _ (n16 q hq))⟩
/-- the classes' numbers, the kinds of rows -/
theorem st_K (hts : ∀ w ∈ lw_tbl, w.before #[Value.ref b] s = true) : ∃ (D : va_G) (cy : Nat → ClassId), va_K D vwCl (xTys cy) s := by
  have m1 : ∀ c ∈ vwCl, (∀ w ∈ u_ws c.1 c.2.1 c.2.2, w ∈ lw_tbl) ∧ ∃ n, n < 30 ∧ Cond.instantiable c.1 n ∈ lw_tbl := by decide +kernel
  have m2 : ∀ t ∈ [FieldType.int, .char, .long, .double], Cond.arrayClass t ∈ lw_tbl := by decide +kernel
  have m3 : Cond.arrayOver (.object "RecyclingSorter$Plant") ∈ lw_tbl := by decide +kernel
  have h0 : ∀ k : Nat, ∃ q : ClassId × (Nat → Nat), ∀ c, vwCl[k]? = some c → u_Kn s c.1 c.2.1 c.2.2 q.1 q.2 := fun k => by
    cases hk : vwCl[k]? with
    | none => exact ⟨(0, fun _ => 0), fun c h => by cases h⟩
    | some c =>
      obtain ⟨h1, n, _, h2⟩ := m1 c (List.mem_of_getElem? hk)
      obtain ⟨cC, iS, h⟩ := u_known (ws := lw_tbl) (args := #[Value.ref b]) hts h1 (hts _ h2)
      exact ⟨(cC, iS), fun c' h' => by cases h'; exact h⟩
  obtain ⟨D, hD⟩ := Classical.axiomOfChoice h0
  have ha : ∀ t ∈ [FieldType.int, .char, .long, .double], ∃ c : ClassId, ArrOfT s c t ∧ s.vm.findClass ("[" ++ t.toString) = some c := fun t ht => by
    obtain ⟨cA, kA, comp, h1, h2, h3⟩ := Cond.arrayClass_spec (hts _ (m2 t ht))
    exact ⟨cA, fun n z => ⟨fun k h => (by cases h), kA, h2, comp, h3⟩, h1⟩
  obtain ⟨c0, a0, b0⟩ := ha .int (by decide)
  obtain ⟨c1, a1, b1⟩ := ha .char (by decide)
  obtain ⟨c2, a2, b2⟩ := ha .long (by decide)
  obtain ⟨c3, a3, b3⟩ := ha .double (by decide)
  obtain ⟨comp, c4, k4, e1, e2, e3, e4, e5⟩ := Cond.arrayOver_spec (hts _ m3)
  have a4 : ArrOfT s c4 (.object "RecyclingSorter$Plant") := fun N z => ⟨(fun k h => by cases h), k4, e3, comp, e4⟩
  refine ⟨(fun k => (D k).1, fun k => (D k).2), fun k => match k with | 0 => c0 | 1 => c1 | 2 => c2 | 3 => c3 | _ => c4, fun c q hq => hD c q hq, fun k q hq => ?_⟩
  match k, hq with
  | 0, hq => cases hq; exact ⟨a0, b0⟩
  | 1, hq => cases hq; exact ⟨a1, b1⟩
  | 2, hq => cases hq; exact ⟨a2, b2⟩
  | 3, hq => cases hq; exact ⟨a3, b3⟩
  | 4, hq => cases hq; exact ⟨a4, k4, comp, e3, e4, e1, e5⟩
  | k + 5, hq => simp at hq
end ST0
