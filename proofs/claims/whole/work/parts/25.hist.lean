/-! a copy is beside the same row -/
theorem cp_RS {o f g : XRow} (h : RS f g) : RS (va_cpy f o 0 0 5) g := fun j hj => by rw [pk_cpy_in (by omega) (by omega)]; simpa using h j hj
theorem cp_row {o f : XRow} {n j : Nat} (h : j < n) : va_cpy f o 0 0 n j = f j := by rw [pk_cpy_in (by omega) (by omega)]; simp
theorem Rel_copy {b : Nat} {o d : PD} {g : XRow} (h : Rel b d g) : Rel b (cpPD o d) g := by
  obtain ⟨hI, hS, hM, hP, hN, e1, hC, e2, e3, e4, e5⟩ := h
  have hm := (IM_mc hI.2.1).2
  have hb := (IB_nb hI.2.2.2.2.1).2
  have hc := (IC_nc hI.2.2.2.1).2
  refine ⟨hI, cp_RS hS, ?_, ?_, ?_, e1, ?_, e2, e3, e4, e5⟩
  · intro m hm2
    refine ⟨fun j hj => ?_, ?_⟩
    · show va_cpy d.2.1 o.2.1 0 0 42 (m * 7 + j) = _
      rw [cp_row (by omega)]; exact (hM m hm2).1 j hj
    · show va_cpy d.2.1 o.2.1 0 0 42 (m * 7 + 6) = _
      rw [cp_row (by omega)]; exact (hM m hm2).2
  · have e : ∀ j, j < 50 → (cpPD o d).2.2.1 j = d.2.2.1 j := fun j hj => cp_row hj
    refine ⟨fun k hk => ?_, fun m hm2 k hk => ?_, fun j h1 h2 => ?_⟩
    · rw [e _ (by omega), e _ (by omega), e _ (by omega)]; exact hP.1 k hk
    · rw [e _ (by omega)]; exact hP.2.1 m hm2 k hk
    · rw [e _ (by omega)]; exact hP.2.2 j h1 h2
  · have e : ∀ j, j < 720 → (cpPD o d).2.2.2.1 j = d.2.2.2.1 j := fun j hj => cp_row hj
    intro i hi
    obtain ⟨i1, i2, i3, i4, i5, i6, i7, i8⟩ := hN i hi
    refine ⟨fun k hk => by rw [e _ (by omega)]; exact i1 k hk, ?_⟩
    rw [e _ (by omega), e _ (by omega), e _ (by omega), e _ (by omega), e _ (by omega), e _ (by omega), e _ (by omega)]
    exact ⟨i2, i3, i4, i5, i6, i7, i8⟩
  · intro c hc2 j hj
    show va_cpy d.2.2.2.2.2.2.1 o.2.2.2.2.2.2.1 0 0 40 (c * 5 + j) = _
    rw [cp_row (by omega)]; exact hC c hc2 j hj
/-! ===== changes kept: the class's ring, the reference's row of rows ===== -/
theorem Inv_eq {b : Nat} {g g' : XRow} (h : ∀ x, x < 672 → g' x = g x) (hI : Inv b g) : Inv b g' := by
  obtain ⟨iS, iM, iK, iC, iB, iP⟩ := hI
  have hm := (IM_mc iM).2
  have hb := (IB_nb iB).2
  have hc := (IC_nc iC).2
  refine ⟨IS_eq (fun j _ _ => h j (by omega)) iS, IM_eq (h 0 (by omega)) (fun m hm j hj => h _ (by omega)) iM, IK_eq (h 0 (by omega)) (fun j _ _ => h j (by omega)) (fun m hm k hk => h _ (by omega)) iK, IC_eq (h 3 (by omega)) (fun j _ _ => h j (by omega)) iC, IB_eq (h 2 (by omega)) (h 3 (by omega)) (fun j _ _ => h j (by omega)) iB, IP_eq iB iC (h 5 (by omega)) (h 2 (by omega)) (fun j _ _ => h j (by omega)) (fun c hc => h _ (by omega)) iP⟩
theorem Rel_eq {b : Nat} {d : PD} {g g' : XRow} (h : ∀ x, x < 672 → g' x = g x) (hR : Rel b d g) : Rel b d g' := by
  obtain ⟨hI, hS, hM, hP, hN, e1, hC, e2, e3, e4, e5⟩ := hR
  have hm := (IM_mc hI.2.1).2
  have hb := (IB_nb hI.2.2.2.2.1).2
  have hc := (IC_nc hI.2.2.2.1).2
  refine ⟨Inv_eq h hI, RS_eq (fun j _ _ => h j (by omega)) hS, RM_eq (h 0 (by omega)) (fun m hm j hj => h _ (by omega)) (fun m hm => h _ (by omega)) hM, RP_eq (h 0 (by omega)) (fun j _ _ => h j (by omega)) (fun m hm k hk => h _ (by omega)) hP, RN_eq hI.2.2.2.2.1 (h 2 (by omega)) (fun j _ _ => h j (by omega)) hN, ?_, RC_eq hc (h 3 (by omega)) (fun j _ _ => h j (by omega)) hC, ?_, ?_, ?_, ?_⟩
  · rw [h 2 (by omega)]; exact e1
  · rw [h 3 (by omega)]; exact e2
  · rw [h 0 (by omega)]; exact e3
  · rw [h 1 (by omega)]; exact e4
  · rw [h 4 (by omega)]; exact e5
theorem cpy_0 {f g : XRow} {a c : Nat} : va_cpy f g a c 0 = g := by
  funext j
  exact pk_cpy_out (by omega)
theorem cpy_s {f g : XRow} {a c k : Nat} : upd (va_cpy f g a c k) (c + k) (f (a + k)) = va_cpy f g a c (k + 1) := by
  funext j
  by_cases h : j = c + k
  · subst h
    rw [pk_us, pk_cpy_in (by omega) (by omega)]
    exact congrArg f (by omega)
  · rw [pk_un h]
    by_cases h2 : c ≤ j ∧ j < c + k
    · rw [pk_cpy_in h2.1 h2.2, pk_cpy_in h2.1 (by omega)]
    · rw [pk_cpy_out (by omega), pk_cpy_out (by omega)]
theorem tq_copies {lnb lnc A C : Nat} {fb fc : XRow} {p0 p1 : Int32} {post : XRow → Prop} (hp0 : p0 = nI A) (hp1 : p1 = nI C) (hA : A + 672 ≤ lnb) (hC : C + 672 ≤ lnc) (hb : lnb < 2 ^ 31) (hc : lnc < 2 ^ 31) (hp : post (va_cpy fb fc A C 672)) : wp_X9_copies lnb fb lnc fc p0 p1 post := by
  subst hp0 hp1
  refine loop_0 (fun n i s => wp_X9_copies_L3 lnb fb lnc (nI A) (nI C) (fun (_ : Int32) (v5 : XRow) => post v5) n (nI i) s) (fun i s => s = va_cpy fb fc A C i) 672 fc cpy_0.symm ?_ ?_
  · intro n s hs
    subst hs
    exact ⟨fun _ => hp, fun h => absurd (nI_le (a := 672) (b := 672) (by omega) (by omega)) h⟩
  · intro n i s hi hs hk
    subst hs
    refine ⟨fun h => absurd h (nI_ge (a := i) (b := 672) (by omega) (by omega)), fun _ => ⟨by rw [nI_add]; exact vp_in_nI (by omega) hb, by rw [nI_add]; exact vp_in_nI (by omega) hc, fun x hx => ?_⟩⟩
    have e1 : nI i + 1 = nI (i + 1) := nI_1 i
    rw [hx, e1, nI_add, nI_add, nI_clamp (by omega), nI_clamp (by omega)]
    exact hk _ cpy_s
/-- the reference's rows, one place on -/
def shf (f : XRow) : XRow := fun i => if i < 4704 then f (i + 672) else f i
def mpK (past : XRow) (pasts : Int32) (g : XRow) : XRow := if cn pasts = 8 then va_cpy g (shf past) 0 4704 672 else va_cpy g past 0 (672 * cn pasts) 672
def mnK (n : Int32) : Int32 := nI (min (cn n + 1) 8)
theorem tq_changes {g past : XRow} {pasts : Int32} {h : Nat} {post : Int32 × XRow → Prop} (hp : pasts = nI h) (hh : h ≤ 8) (hq : post (mnK pasts, mpK past pasts g)) : wp_X9_changes_o1 g past pasts post := by
  subst hp
  have ec : cn (nI h) = h := cn_nI (by omega)
  unfold mnK mpK at hq
  rw [ec] at hq
  refine pk_eq h 8 (fun h8 => ?_) (fun h8 => ?_)
  · rw [if_pos h8] at hq
    subst h8
    refine loop_0 (fun n i s => wp_X9_changes_o1_L11 (fun (_ : Int32) (v7 : XRow) => ∀ x8 : Int32, x8 = nI 8 - 1 → (wp_X9_copies 672 g 5376 v7 0 (672 * x8) (fun u9 : XRow => ∀ x10 : Int32, x10 = x8 + 1 → (post (x10, u9))))) n (nI i) s) (fun i s => s = fun j => if j < i then past (j + 672) else past j) 4704 past (by funext j; rw [if_neg (by omega)]) ?_ ?_
    · intro n s hs
      subst hs
      refine ⟨fun _ x hx => ?_, fun h => absurd (nI_le (a := 4704) (b := 4704) (by omega) (by omega)) h⟩
      have e1 : nI 8 - 1 = nI 7 := nI_pred 7
      have e2 : 672 * nI 7 = nI 4704 := pk_mul 672 7
      have e3 : nI 7 + 1 = nI 8 := nI_1 7
      rw [hx, e1, e2]
      refine tq_copies (A := 0) rfl rfl (by omega) (by omega) (by omega) (by omega) ?_
      intro y hy
      rw [hy, e3]
      exact hq
    · intro n i s hi hs hk
      subst hs
      have ea : nI i + 672 = nI (i + 672) := nI_add i 672
      refine ⟨fun h => absurd h (nI_ge (a := i) (b := 4704) (by omega) (by omega)), fun _ => ⟨by rw [ea]; exact vp_in_nI (by omega) (by omega), vp_in_nI (by omega) (by omega), fun x hx => ?_⟩⟩
      have e1 : nI i + 1 = nI (i + 1) := nI_1 i
      rw [hx, e1, ea, nI_clamp (by omega), nI_clamp (by omega)]
      refine hk _ ?_
      funext j
      by_cases hj : j = i
      · subst hj
        rw [pk_us]
        show (if j + 672 < j then past (j + 672 + 672) else past (j + 672)) = (if j < j + 1 then past (j + 672) else past j)
        rw [if_neg (by omega), if_pos (by omega)]
      · rw [pk_un hj]
        by_cases hj2 : j < i
        · rw [if_pos hj2, if_pos (by omega)]
        · rw [if_neg hj2, if_neg (by omega)]
  · rw [if_neg h8] at hq
    have e2 : 672 * nI h = nI (672 * h) := pk_mul 672 h
    have e3 : nI h + 1 = nI (h + 1) := nI_1 h
    rw [e2]
    refine tq_copies (A := 0) rfl rfl (by omega) (by omega) (by omega) (by omega) ?_
    intro y hy
    rw [hy, e3]
    rw [show min (h + 1) 8 = h + 1 by omega] at hq
    exact hq
/-- the ring beside the rows -/
def HR (b : Nat) (hn hc : Int32) (hK : Nat → PD) (past : XRow) (pasts : Int32) : Prop := ∃ j h : Nat, j < 8 ∧ h ≤ 8 ∧ hn = nI j ∧ hc = nI h ∧ pasts = nI h ∧ ∀ i, i < h → Rel b (hK ((j + 8 - i) % 8)) (fun x => past (672 * (h - 1 - i) + x))
def hnK (hn : Int32) : Int32 := nI ((cn hn + 1) % 8)
def hcK (hc : Int32) : Int32 := nI (min (cn hc + 1) 8)
def hKK (hn : Int32) (hK : Nat → PD) (d : PD) : Nat → PD := va_up hK ((cn hn + 1) % 8) (cpPD (hK ((cn hn + 1) % 8)) d)
theorem HR_up {b b' : Nat} {hn hc : Int32} {hK : Nat → PD} {past : XRow} {pasts : Int32} (h : HR b hn hc hK past pasts) (hb : b ≤ b') : HR b' hn hc hK past pasts := by
  obtain ⟨j, k, h1, h2, h3, h4, h5, h6⟩ := h
  exact ⟨j, k, h1, h2, h3, h4, h5, fun i hi => Rel_up (h6 i hi) hb⟩
theorem tc_keep {b : Nat} {hn hc : Int32} {hK : Nat → PD} {past : XRow} {pasts : Int32} {d : PD} {post : (Int32 × Int32 × (Nat → PD)) → Prop} (h : HR b hn hc hK past pasts) (hq : post (hnK hn, hcK hc, hKK hn hK d)) : wp_X3_keep hn hc hK d post := by
  obtain ⟨j, k, h1, h2, rfl, rfl, h5, h6⟩ := h
  refine ⟨j, h1, rfl, ?_⟩
  unfold hnK hcK hKK at hq
  rw [cn_nI (by omega), cn_nI (by omega)] at hq
  have e : xMin (nI k + 1) 8 = nI (min (k + 1) 8) := by
    have e1 : nI k + 1 = nI (k + 1) := nI_1 k
    rw [e1]
    show (if nI 8 < nI (k + 1) then nI 8 else nI (k + 1)) = _
    by_cases hk : k + 1 ≤ 8
    · rw [if_neg (nI_nlt (a := 8) (b := k + 1) hk (by omega)), Nat.min_eq_left hk]
    · rw [if_pos (nI_lt (a := 8) (b := k + 1) (by omega) (by omega))]
      rw [show min (k + 1) 8 = 8 by omega]
  rw [e]
  exact hq
theorem tm_changes {b : Nat} {hn hc : Int32} {hK : Nat → PD} {g past : XRow} {pasts : Int32} {post : Int32 × XRow → Prop} (h : HR b hn hc hK past pasts) (hq : post (mnK pasts, mpK past pasts g)) : wp_X9_changes_o1 g past pasts post := by
  obtain ⟨j, k, h1, h2, h3, h4, h5, h6⟩ := h
  exact tq_changes h5 h2 hq
theorem HR_keep {b : Nat} {hn hc : Int32} {hK : Nat → PD} {g past : XRow} {pasts : Int32} {d : PD} (h : HR b hn hc hK past pasts) (hR : Rel b d g) : HR b (hnK hn) (hcK hc) (hKK hn hK d) (mpK past pasts g) (mnK pasts) := by
  obtain ⟨j, k, h1, h2, rfl, rfl, rfl, h6⟩ := h
  unfold hnK hcK hKK mpK mnK
  rw [cn_nI (by omega), cn_nI (by omega)]
  refine ⟨(j + 1) % 8, min (k + 1) 8, by omega, by omega, rfl, rfl, rfl, fun i hi => ?_⟩
  by_cases hi0 : i = 0
  · subst hi0
    have e1 : ((j + 1) % 8 + 8 - 0) % 8 = (j + 1) % 8 := by omega
    rw [e1]
    have e2 : va_up hK ((j + 1) % 8) (cpPD (hK ((j + 1) % 8)) d) ((j + 1) % 8) = cpPD (hK ((j + 1) % 8)) d := if_pos rfl
    rw [e2]
    refine Rel_eq (fun x hx => ?_) (Rel_copy hR)
    by_cases h8 : k = 8
    · rw [if_pos h8]
      show va_cpy g (shf past) 0 4704 672 (672 * (min (k + 1) 8 - 1 - 0) + x) = g x
      rw [pk_cpy_in (by omega) (by omega)]
      exact congrArg g (by omega)
    · rw [if_neg h8]
      show va_cpy g past 0 (672 * k) 672 (672 * (min (k + 1) 8 - 1 - 0) + x) = g x
      rw [show min (k + 1) 8 - 1 - 0 = k by omega, pk_cpy_in (by omega) (by omega)]
      exact congrArg g (by omega)
  · have e1 : ((j + 1) % 8 + 8 - i) % 8 = (j + 8 - (i - 1)) % 8 := by omega
    have e2 : va_up hK ((j + 1) % 8) (cpPD (hK ((j + 1) % 8)) d) ((j + 8 - (i - 1)) % 8) = hK ((j + 8 - (i - 1)) % 8) := if_neg (by omega)
    rw [e1, e2]
    refine Rel_eq (fun x hx => ?_) (h6 (i - 1) (by omega))
    by_cases h8 : k = 8
    · rw [if_pos h8]
      show va_cpy g (shf past) 0 4704 672 (672 * (min (k + 1) 8 - 1 - i) + x) = past (672 * (k - 1 - (i - 1)) + x)
      rw [pk_cpy_out (by omega)]
      unfold shf
      rw [if_pos (by omega)]
      exact congrArg past (by omega)
    · rw [if_neg h8]
      show va_cpy g past 0 (672 * k) 672 (672 * (min (k + 1) 8 - 1 - i) + x) = past (672 * (k - 1 - (i - 1)) + x)
      rw [pk_cpy_out (by omega)]
      exact congrArg past (by omega)
