/-! ===== the class's plant beside the reference's row ===== -/
def cn (x : Int32) : Nat := x.toNatClampNeg
theorem cn_nI {n : Nat} (h : n < 2 ^ 31) : cn (nI n) = n := nI_clamp h
/-- a number between two others -/
def ok (x : Int32) (lo hi : Nat) : Prop := ∃ n : Nat, lo ≤ n ∧ n ≤ hi ∧ x = nI n
theorem ok_nI {n lo hi : Nat} (h1 : lo ≤ n) (h2 : n ≤ hi) : ok (nI n) lo hi := ⟨n, h1, h2, rfl⟩
theorem ok_cn {x : Int32} {lo hi : Nat} (h : ok x lo hi) (hh : hi < 2 ^ 31) : x = nI (cn x) ∧ lo ≤ cn x ∧ cn x ≤ hi := by
  obtain ⟨n, h1, h2, rfl⟩ := h
  rw [cn_nI (by omega)]
  exact ⟨rfl, h1, h2⟩
def kq (g : XRow) (a : Nat) : Nat → Nat := fun k => cn (g (a + k))
/-- kilos: a number that is not negative -/
def kok (x : Int32) : Prop := x = nI (cn x)
theorem kok_nI {n : Nat} (h : n < 2 ^ 31) : kok (nI n) := by unfold kok; rw [cn_nI h]
def bsum (g : XRow) : Nat → Nat | 0 => 0 | m + 1 => bsum g m + s5 (kq g (31 + 11 * m))
def tot (g : XRow) : Nat := s5 (kq g 11) + s5 (kq g 16) + bsum g (cn (g 0))
/-- settings -/
def IS (g : XRow) : Prop := ok (g 6) 1 500 ∧ ok (g 7) 0 100 ∧ ok (g 8) 10 200 ∧ ok (g 9) 1 50 ∧ ok (g 10) 0 1
def IM1 (g : XRow) (m : Nat) : Prop := ok (g (26 + 11 * m)) 0 4 ∧ ok (g (27 + 11 * m)) 10 100 ∧ ok (g (28 + 11 * m)) 0 90 ∧ ok (g (29 + 11 * m)) 1 500 ∧ ok (g (30 + 11 * m)) 0 9
/-- machines -/
def IM (g : XRow) : Prop := ok (g 0) 0 6 ∧ ∀ m, m < cn (g 0) → IM1 g m
/-- kilos -/
def IK (b : Nat) (g : XRow) : Prop := (∀ k, k < 5 → kok (g (11 + k)) ∧ kok (g (16 + k)) ∧ kok (g (21 + k))) ∧ (∀ m, m < cn (g 0) → ∀ k, k < 5 → kok (g (31 + 11 * m + k))) ∧ tot g ≤ 999 * b ∧ s5 (kq g 21) ≤ 999 * b
def IC1 (g : XRow) (c : Nat) : Prop := ok (g (92 + 5 * c)) 0 4 ∧ ok (g (93 + 5 * c)) 0 1000 ∧ ok (g (94 + 5 * c)) 0 9999 ∧ ok (g (95 + 5 * c)) 1 99
/-- contracts -/
def IC (g : XRow) : Prop := ok (g 3) 0 8 ∧ ∀ c, c < cn (g 3) → IC1 g c
def IB1 (g : XRow) (i : Nat) : Prop := (∀ k, k < 5 → kok (g (132 + 9 * i + k))) ∧ 10 ≤ s5 (kq g (132 + 9 * i)) ∧ s5 (kq g (132 + 9 * i)) ≤ 200 ∧ ok (g (137 + 9 * i)) 0 4 ∧ ok (g (138 + 9 * i)) 0 1000 ∧ ok (g (139 + 9 * i)) 0 2 ∧ (g (139 + 9 * i) = 1 → ∃ c, c < cn (g 3) ∧ g (140 + 9 * i) = nI c)
/-- bales -/
def IB (g : XRow) : Prop := ok (g 2) 0 60 ∧ ∀ i, i < cn (g 2) → IB1 g i
def pay1 (g : XRow) (i : Nat) : Nat := if g (139 + 9 * i) = 1 then s5 (kq g (132 + 9 * i)) * cn (g (95 + 5 * cn (g (140 + 9 * i)))) else 0
def pays (g : XRow) : Nat → Nat | 0 => 0 | i + 1 => pays g i + pay1 g i
/-- what was paid -/
def IP (g : XRow) : Prop := g 5 = nI (pays g (cn (g 2)))
/-- the rows beside one another -/
def RS (f g : XRow) : Prop := ∀ j, j < 5 → f j = g (6 + j)
def RM (f g : XRow) : Prop := ∀ m, m < cn (g 0) → (∀ j, j < 5 → f (m * 7 + j) = g (26 + 11 * m + j)) ∧ f (m * 7 + 6) = g (36 + 11 * m)
def RP (f g : XRow) : Prop := (∀ k, k < 5 → f (30 + k) = g (11 + k) ∧ f (35 + k) = g (16 + k) ∧ f (40 + k) = g (21 + k)) ∧ (∀ m, m < cn (g 0) → ∀ k, k < 5 → f (m * 5 + k) = g (31 + 11 * m + k)) ∧ (∀ j, cn (g 0) * 5 ≤ j → j < 30 → f j = 0)
def gBy (n : Nat) : Nat := if 950 ≤ n then 0 else if 850 ≤ n then 1 else if 700 ≤ n then 2 else 3
def RN1 (f g : XRow) (i : Nat) : Prop := (∀ k, k < 5 → f (i * 12 + k) = g (132 + 9 * i + k)) ∧ f (i * 12 + 5) = g (137 + 9 * i) ∧ f (i * 12 + 6) = nI (s5 (kq g (132 + 9 * i))) ∧ f (i * 12 + 7) = nI (cn (g (132 + 9 * i + cn (g (137 + 9 * i)))) * 1000 / s5 (kq g (132 + 9 * i))) ∧ f (i * 12 + 8) = g (138 + 9 * i) ∧ f (i * 12 + 9) = nI (gBy (cn (g (138 + 9 * i)))) ∧ f (i * 12 + 10) = g (139 + 9 * i) ∧ f (i * 12 + 11) = g (140 + 9 * i)
def RN (f g : XRow) : Prop := ∀ i, i < cn (g 2) → RN1 f g i
def RC (f g : XRow) : Prop := ∀ c, c < cn (g 3) → ∀ j, j < 5 → f (c * 5 + j) = g (92 + 5 * c + j)
/-- a row that the reference may come to -/
def Inv (b : Nat) (g : XRow) : Prop := IS g ∧ IM g ∧ IK b g ∧ IC g ∧ IB g ∧ IP g
/-- the class's plant, as the reference's row says -/
def Rel (b : Nat) (d : PD) (g : XRow) : Prop := Inv b g ∧ RS d.1 g ∧ RM d.2.1 g ∧ RP d.2.2.1 g ∧ RN d.2.2.2.1 g ∧ d.2.2.2.2.1 = g 2 ∧ RC d.2.2.2.2.2.2.1 g ∧ d.2.2.2.2.2.2.2.1 = g 3 ∧ d.2.2.2.2.2.2.2.2.2.1 = g 0 ∧ d.2.2.2.2.2.2.2.2.2.2.1 = g 1 ∧ d.2.2.2.2.2.2.2.2.2.2.2 = g 4
theorem IM_mc {g : XRow} (h : IM g) : g 0 = nI (cn (g 0)) ∧ cn (g 0) ≤ 6 := ⟨(ok_cn h.1 (by omega)).1, (ok_cn h.1 (by omega)).2.2⟩
theorem IC_nc {g : XRow} (h : IC g) : g 3 = nI (cn (g 3)) ∧ cn (g 3) ≤ 8 := ⟨(ok_cn h.1 (by omega)).1, (ok_cn h.1 (by omega)).2.2⟩
theorem IB_nb {g : XRow} (h : IB g) : g 2 = nI (cn (g 2)) ∧ cn (g 2) ≤ 60 := ⟨(ok_cn h.1 (by omega)).1, (ok_cn h.1 (by omega)).2.2⟩
theorem bsum_le {g : XRow} {m : Nat} : ∀ {n : Nat}, m < n → s5 (kq g (31 + 11 * m)) ≤ bsum g n
  | 0, h => by omega
  | n + 1, h => by
    show _ ≤ bsum g n + s5 (kq g (31 + 11 * n))
    rcases Nat.lt_or_ge m n with h2 | h2
    · have := bsum_le (g := g) h2; omega
    · have : m = n := by omega
      subst this; omega
theorem Inv_up {b b' : Nat} {g : XRow} (h : Inv b g) (hb : b ≤ b') : Inv b' g := by
  obtain ⟨h1, h2, ⟨h3, h4, h5, h6⟩, h7⟩ := h
  exact ⟨h1, h2, ⟨h3, h4, by omega, by omega⟩, h7⟩
theorem Rel_up {b b' : Nat} {d : PD} {g : XRow} (h : Rel b d g) (hb : b ≤ b') : Rel b' d g := ⟨Inv_up h.1 hb, h.2⟩
/-! what each of them looks at -/
theorem kq_eq {g g' : XRow} {a : Nat} (h : ∀ k, k < 5 → g' (a + k) = g (a + k)) : s5 (kq g' a) = s5 (kq g a) := s5_congr (fun k hk => by unfold kq; rw [h k hk])
theorem IS_eq {g g' : XRow} (h : ∀ j, 6 ≤ j → j < 11 → g' j = g j) (hh : IS g) : IS g' := by
  unfold IS
  rw [h 6 (by omega) (by omega), h 7 (by omega) (by omega), h 8 (by omega) (by omega), h 9 (by omega) (by omega), h 10 (by omega) (by omega)]
  exact hh
theorem RS_eq {f g g' : XRow} (h : ∀ j, 6 ≤ j → j < 11 → g' j = g j) (hh : RS f g) : RS f g' := fun j hj => by rw [h (6 + j) (by omega) (by omega)]; exact hh j hj
theorem IM1_eq {g g' : XRow} {m : Nat} (h : ∀ j, j < 5 → g' (26 + 11 * m + j) = g (26 + 11 * m + j)) (hh : IM1 g m) : IM1 g' m := by
  have h0 : g' (26 + 11 * m) = g (26 + 11 * m) := h 0 (by omega)
  have h1 := h 1 (by omega); have h2 := h 2 (by omega); have h3 := h 3 (by omega); have h4 := h 4 (by omega)
  rw [show 26 + 11 * m + 1 = 27 + 11 * m by omega] at h1
  rw [show 26 + 11 * m + 2 = 28 + 11 * m by omega] at h2
  rw [show 26 + 11 * m + 3 = 29 + 11 * m by omega] at h3
  rw [show 26 + 11 * m + 4 = 30 + 11 * m by omega] at h4
  unfold IM1
  rw [h0, h1, h2, h3, h4]
  exact hh
theorem IM_eq {g g' : XRow} (h0 : g' 0 = g 0) (h : ∀ m, m < cn (g 0) → ∀ j, j < 5 → g' (26 + 11 * m + j) = g (26 + 11 * m + j)) (hh : IM g) : IM g' := by
  unfold IM
  rw [h0]
  exact ⟨hh.1, fun m hm => IM1_eq (h m hm) (hh.2 m hm)⟩
theorem RM_eq {f g g' : XRow} (h0 : g' 0 = g 0) (h : ∀ m, m < cn (g 0) → ∀ j, j < 5 → g' (26 + 11 * m + j) = g (26 + 11 * m + j)) (h2 : ∀ m, m < cn (g 0) → g' (36 + 11 * m) = g (36 + 11 * m)) (hh : RM f g) : RM f g' := by
  unfold RM
  rw [h0]
  exact fun m hm => ⟨fun j hj => by rw [h m hm j hj]; exact (hh m hm).1 j hj, by rw [h2 m hm]; exact (hh m hm).2⟩
theorem bsum_eq {g g' : XRow} : ∀ {n : Nat}, (∀ m, m < n → ∀ k, k < 5 → g' (31 + 11 * m + k) = g (31 + 11 * m + k)) → bsum g' n = bsum g n
  | 0, _ => rfl
  | n + 1, h => by
    show bsum g' n + _ = bsum g n + _
    rw [bsum_eq (fun m hm => h m (by omega)), kq_eq (h n (by omega))]
theorem IK_eq {b : Nat} {g g' : XRow} (h0 : g' 0 = g 0) (h : ∀ j, 11 ≤ j → j < 26 → g' j = g j) (h2 : ∀ m, m < cn (g 0) → ∀ k, k < 5 → g' (31 + 11 * m + k) = g (31 + 11 * m + k)) (hh : IK b g) : IK b g' := by
  obtain ⟨i1, i2, i3, i4⟩ := hh
  have e1 := kq_eq (g := g) (g' := g') (a := 11) (fun k hk => h _ (by omega) (by omega))
  have e2 := kq_eq (g := g) (g' := g') (a := 16) (fun k hk => h _ (by omega) (by omega))
  have e3 := kq_eq (g := g) (g' := g') (a := 21) (fun k hk => h _ (by omega) (by omega))
  refine ⟨fun k hk => ?_, fun m hm k hk => ?_, ?_, ?_⟩
  · rw [h (11 + k) (by omega) (by omega), h (16 + k) (by omega) (by omega), h (21 + k) (by omega) (by omega)]
    exact i1 k hk
  · rw [h0] at hm
    rw [h2 m hm k hk]
    exact i2 m hm k hk
  · unfold tot
    rw [h0, e1, e2, bsum_eq h2]
    exact i3
  · rw [e3]; exact i4
theorem RP_eq {f g g' : XRow} (h0 : g' 0 = g 0) (h : ∀ j, 11 ≤ j → j < 26 → g' j = g j) (h2 : ∀ m, m < cn (g 0) → ∀ k, k < 5 → g' (31 + 11 * m + k) = g (31 + 11 * m + k)) (hh : RP f g) : RP f g' := by
  obtain ⟨i1, i2, i3⟩ := hh
  refine ⟨fun k hk => ?_, fun m hm k hk => ?_, ?_⟩
  · rw [h (11 + k) (by omega) (by omega), h (16 + k) (by omega) (by omega), h (21 + k) (by omega) (by omega)]
    exact i1 k hk
  · rw [h0] at hm
    rw [h2 m hm k hk]
    exact i2 m hm k hk
  · rw [h0]; exact i3
theorem IC_eq {g g' : XRow} (h3 : g' 3 = g 3) (h : ∀ j, 92 ≤ j → j < 132 → g' j = g j) (hh : IC g) : IC g' := by
  have hn := (IC_nc hh).2
  unfold IC
  rw [h3]
  refine ⟨hh.1, fun c hc => ?_⟩
  have := hh.2 c hc
  unfold IC1
  rw [h (92 + 5 * c) (by omega) (by omega), h (93 + 5 * c) (by omega) (by omega), h (94 + 5 * c) (by omega) (by omega), h (95 + 5 * c) (by omega) (by omega)]
  exact this
theorem RC_eq {f g g' : XRow} (hn : cn (g 3) ≤ 8) (h3 : g' 3 = g 3) (h : ∀ j, 92 ≤ j → j < 132 → g' j = g j) (hh : RC f g) : RC f g' := by
  unfold RC
  rw [h3]
  exact fun c hc j hj => by rw [h (92 + 5 * c + j) (by omega) (by omega)]; exact hh c hc j hj
theorem IB1_eq {g g' : XRow} {i : Nat} (h3 : g' 3 = g 3) (h : ∀ j, 132 + 9 * i ≤ j → j < 141 + 9 * i → g' j = g j) (hh : IB1 g i) : IB1 g' i := by
  have e1 := kq_eq (g := g) (g' := g') (a := 132 + 9 * i) (fun k hk => h _ (by omega) (by omega))
  obtain ⟨i1, i2⟩ := hh
  refine ⟨fun k hk => by rw [h _ (by omega) (by omega)]; exact i1 k hk, ?_⟩
  rw [e1, h (137 + 9 * i) (by omega) (by omega), h (138 + 9 * i) (by omega) (by omega), h (139 + 9 * i) (by omega) (by omega), h (140 + 9 * i) (by omega) (by omega), h3]
  exact i2
theorem IB_eq {g g' : XRow} (h2 : g' 2 = g 2) (h3 : g' 3 = g 3) (h : ∀ j, 132 ≤ j → j < 672 → g' j = g j) (hh : IB g) : IB g' := by
  have hn := (IB_nb hh).2
  unfold IB
  rw [h2]
  exact ⟨hh.1, fun i hi => IB1_eq h3 (fun j h1 h2 => h j (by omega) (by omega)) (hh.2 i hi)⟩
theorem RN1_eq {f g g' : XRow} {i : Nat} (h : ∀ j, 132 + 9 * i ≤ j → j < 141 + 9 * i → g' j = g j) (hm : cn (g (137 + 9 * i)) < 5) (hh : RN1 f g i) : RN1 f g' i := by
  have e1 := kq_eq (g := g) (g' := g') (a := 132 + 9 * i) (fun k hk => h _ (by omega) (by omega))
  obtain ⟨i1, i2⟩ := hh
  refine ⟨fun k hk => by rw [h _ (by omega) (by omega)]; exact i1 k hk, ?_⟩
  rw [e1, h (137 + 9 * i) (by omega) (by omega), h (138 + 9 * i) (by omega) (by omega), h (139 + 9 * i) (by omega) (by omega), h (140 + 9 * i) (by omega) (by omega), h (132 + 9 * i + cn (g (137 + 9 * i))) (by omega) (by omega)]
  exact i2
theorem IB1_mat {g : XRow} {i : Nat} (h : IB1 g i) : cn (g (137 + 9 * i)) < 5 := by
  have := (ok_cn h.2.2.2.1 (by omega)).2.2
  omega
theorem RN_eq {f g g' : XRow} (hb : IB g) (h2 : g' 2 = g 2) (h : ∀ j, 132 ≤ j → j < 672 → g' j = g j) (hh : RN f g) : RN f g' := by
  have hn := (IB_nb hb).2
  unfold RN
  rw [h2]
  exact fun i hi => RN1_eq (fun j h1 h2 => h j (by omega) (by omega)) (IB1_mat (hb.2 i hi)) (hh i hi)
theorem pay1_eq {g g' : XRow} {i : Nat} (hb : IB1 g i) (hc : cn (g 3) ≤ 8) (h : ∀ j, 132 + 9 * i ≤ j → j < 141 + 9 * i → g' j = g j) (h2 : ∀ c, c < cn (g 3) → g' (95 + 5 * c) = g (95 + 5 * c)) : pay1 g' i = pay1 g i := by
  have e1 := kq_eq (g := g) (g' := g') (a := 132 + 9 * i) (fun k hk => h _ (by omega) (by omega))
  unfold pay1
  rw [e1, h (139 + 9 * i) (by omega) (by omega), h (140 + 9 * i) (by omega) (by omega)]
  by_cases hs : g (139 + 9 * i) = 1
  · rw [if_pos hs, if_pos hs]
    obtain ⟨c, hc1, hc2⟩ := hb.2.2.2.2.2.2 hs
    rw [hc2, cn_nI (by omega), h2 c hc1]
  · rw [if_neg hs, if_neg hs]
theorem pays_eq {g g' : XRow} : ∀ {n : Nat}, (∀ i, i < n → pay1 g' i = pay1 g i) → pays g' n = pays g n
  | 0, _ => rfl
  | n + 1, h => by
    show pays g' n + _ = pays g n + _
    rw [pays_eq (fun i hi => h i (by omega)), h n (by omega)]
theorem IP_eq {g g' : XRow} (hb : IB g) (hc : IC g) (h5 : g' 5 = g 5) (h2 : g' 2 = g 2) (h : ∀ j, 132 ≤ j → j < 672 → g' j = g j) (h9 : ∀ c, c < cn (g 3) → g' (95 + 5 * c) = g (95 + 5 * c)) (hh : IP g) : IP g' := by
  have hn := (IB_nb hb).2
  unfold IP
  rw [h5, h2, pays_eq (fun i hi => pay1_eq (hb.2 i hi) (IC_nc hc).2 (fun j h1 h2 => h j (by omega) (by omega)) h9)]
  exact hh
