/-! ===== level 2: a pass, first half: the belt ===== -/
def pfx (f : Nat → Nat) : Nat → Nat | 0 => 0 | k + 1 => pfx f k + f k
theorem pfx_5 (f : Nat → Nat) : pfx f 5 = s5 f := by unfold s5; show 0 + f 0 + f 1 + f 2 + f 3 + f 4 = _; omega
theorem pfx_mono (f : Nat → Nat) : ∀ {a c : Nat}, a ≤ c → pfx f a ≤ pfx f c
  | a, 0, h => by
    have : a = 0 := by omega
    subst this; exact Nat.le_refl _
  | a, c + 1, h => by
    show _ ≤ pfx f c + f c
    by_cases h2 : a = c + 1
    · subst h2; exact Nat.le_refl _
    · have := pfx_mono f (a := a) (c := c) (by omega); omega
def rtN (g : XRow) (m flow k : Nat) : Nat := if nI k = g (26 + 11 * m) then caN g m flow else miN g m flow
def gsN (g : XRow) (m : Nat) (c : Nat → Nat) (k : Nat) : Nat := c k * rtN g m (s5 c) k / 100
def n0 (g : XRow) : Nat := min (cn (g 6)) (s5 (kq g 11))
def cmN (g : XRow) : Nat → Nat → Nat | 0 => shr (kq g 11) (n0 g) | m + 1 => fun k => cmN g m k - gsN g m (cmN g m) k
def bkN (g : XRow) (k : Nat) : Nat := cmN g (cn (g 0)) k * cn (g 7) / 100
def gsA (g : XRow) : Nat → Nat | 0 => 0 | m + 1 => gsA g m + s5 (gsN g m (cmN g m))
def wsN (g : XRow) : Nat := s5 (fun k => cmN g (cn (g 0)) k - bkN g k)
/-- the reference's row behind m machines; behind the belt -/
def gS (g : XRow) : Nat → XRow | 0 => fil g 11 5 (fun k => nI (kq g 11 k - shr (kq g 11) (n0 g) k)) | m + 1 => fil (gS g m) (31 + 11 * m) 5 (fun k => nI (cn (g (31 + 11 * m + k)) + gsN g m (cmN g m) k))
def gC (g : XRow) : XRow := fil (fil (gS g (cn (g 0))) 11 5 (fun k => nI (kq g 11 k - shr (kq g 11) (n0 g) k + bkN g k))) 16 5 (fun k => nI (cn (g (16 + k)) + (cmN g (cn (g 0)) k - bkN g k)))
/-- the class's places -/
def pS (P g : XRow) : Nat → XRow | 0 => fil (fil P (9 * 5) 5 (fun k => nI (shr (kq g 11) (n0 g) k))) (6 * 5) 5 (fun k => nI (kq g 11 k - shr (kq g 11) (n0 g) k)) | m + 1 => fil (fil (pS P g m) 45 5 (fun k => nI (cmN g (m + 1) k))) (m * 5) 5 (fun k => nI (cn (g (31 + 11 * m + k)) + gsN g m (cmN g m) k))
def pC (P g : XRow) : XRow := fil (fil (fil (pS P g (cn (g 0))) 45 5 (fun _ => 0)) 30 5 (fun k => nI (kq g 11 k - shr (kq g 11) (n0 g) k + bkN g k))) 35 5 (fun k => nI (cn (g (16 + k)) + (cmN g (cn (g 0)) k - bkN g k)))
theorem fil2_s {P : XRow} {a c i : Nat} {v w : Nat → Int32} (hd : a + 5 ≤ c ∨ c + 5 ≤ a) (hi : i < 5) : upd (upd (fil (fil P a i v) c i w) (a + i) (v i)) (c + i) (w i) = fil (fil P a (i + 1) v) c (i + 1) w := by
  have e : upd (fil (fil P a i v) c i w) (a + i) (v i) = fil (fil P a (i + 1) v) c i w := by
    funext j
    by_cases h : j = a + i
    · subst h
      rw [pk_us, fil_out (by omega), fil_in (by omega)]
    · rw [un h]
      by_cases h2 : c ≤ j ∧ j < c + i
      · obtain ⟨x, rfl⟩ : ∃ x, j = c + x := ⟨j - c, by omega⟩
        rw [fil_in (by omega), fil_in (by omega)]
      · have z1 : ∀ Q : XRow, fil Q c i w j = Q j := fun Q => fil_out (by omega)
        rw [z1, z1]
        by_cases h3 : a ≤ j ∧ j < a + i
        · obtain ⟨x, rfl⟩ : ∃ x, j = a + x := ⟨j - a, by omega⟩
          rw [fil_in (by omega), fil_in (by omega)]
        · rw [fil_out (by omega), fil_out (by omega)]
  rw [e, fil_s]
theorem fil_tw {P : XRow} {a i : Nat} {v w : Nat → Int32} (h : i ≤ 5) : fil (fil P a 5 v) a i w = fil P a 5 (fun k => if k < i then w k else v k) := by
  funext j
  by_cases h2 : a ≤ j ∧ j < a + 5
  · obtain ⟨x, rfl⟩ : ∃ x, j = a + x := ⟨j - a, by omega⟩
    have r : fil P a 5 (fun k => if k < i then w k else v k) (a + x) = if x < i then w x else v x := fil_in (by omega)
    rw [r]
    by_cases h3 : x < i
    · rw [fil_in h3, if_pos h3]
    · rw [fil_out (by omega), fil_in (by omega), if_neg h3]
  · rw [fil_out (by omega), fil_out (by omega), fil_out (by omega)]
theorem fil_over {P : XRow} {a : Nat} {v w : Nat → Int32} : fil (fil P a 5 v) a 5 w = fil P a 5 w := by
  rw [fil_tw (Nat.le_refl _)]
  exact fil_congr (fun j hj => if_pos hj)
section PA
variable {b : Nat} {d : PD} {g : XRow}
theorem caN_le (hI : IM g) {m : Nat} (hm : m < cn (g 0)) (flow : Nat) : caN g m flow ≤ 100 := by
  obtain ⟨e, l, u⟩ := ok_cn (hI.2 m hm).2.1 (by omega)
  unfold caN
  omega
theorem miN_le (m flow : Nat) : miN g m flow ≤ 100 := by unfold miN; omega
theorem rtN_le (hI : IM g) {m : Nat} (hm : m < cn (g 0)) (flow k : Nat) : rtN g m flow k ≤ 100 := by
  unfold rtN
  split
  · exact caN_le hI hm flow
  · exact miN_le m flow
theorem gsN_le (hI : IM g) {m : Nat} (hm : m < cn (g 0)) (c : Nat → Nat) (k : Nat) : gsN g m c k ≤ c k := by
  have h := rtN_le hI hm (s5 c) k
  have := Nat.mul_le_mul_left (c k) h
  unfold gsN
  omega
theorem n0_le (g : XRow) : n0 g ≤ s5 (kq g 11) := Nat.min_le_right _ _
theorem n0_500 (hS : IS g) : n0 g ≤ 500 := by
  obtain ⟨e, l, u⟩ := ok_cn hS.1 (by omega)
  unfold n0; omega
theorem shr0 (g : XRow) (k : Nat) : shr (kq g 11) (n0 g) k ≤ kq g 11 k := shr_q (by have := n0_le g; omega) (n0_le g) k
theorem s5_le {f h : Nat → Nat} (hh : ∀ k, k < 5 → f k ≤ h k) : s5 f ≤ s5 h := by
  have h0 := hh 0 (by omega); have h1 := hh 1 (by omega); have h2 := hh 2 (by omega); have h3 := hh 3 (by omega); have h4 := hh 4 (by omega)
  unfold s5; omega
theorem s5_sub {f h : Nat → Nat} (hh : ∀ k, k < 5 → h k ≤ f k) : s5 (fun k => f k - h k) + s5 h = s5 f := by
  have h0 := hh 0 (by omega); have h1 := hh 1 (by omega); have h2 := hh 2 (by omega); have h3 := hh 3 (by omega); have h4 := hh 4 (by omega)
  unfold s5; dsimp only; omega
theorem shr_s (g : XRow) : s5 (shr (kq g 11) (n0 g)) = n0 g := by
  rcases Nat.eq_zero_or_pos (s5 (kq g 11)) with h | h
  · have h1 : n0 g = 0 := by have := n0_le g; omega
    have h2 := s5_le (f := shr (kq g 11) (n0 g)) (h := kq g 11) (fun k _ => shr0 g k)
    omega
  · exact shr_sum h
/-- what is on the belt -/
theorem cmN_s (hI : IM g) : ∀ m, m ≤ cn (g 0) → s5 (cmN g m) + gsA g m = n0 g
  | 0, _ => by show s5 (shr (kq g 11) (n0 g)) + 0 = _; rw [shr_s]; rfl
  | m + 1, h => by
    have ih := cmN_s hI m (by omega)
    have := s5_sub (f := cmN g m) (h := gsN g m (cmN g m)) (fun k _ => gsN_le hI (by omega) _ _)
    show s5 (fun k => cmN g m k - gsN g m (cmN g m) k) + (gsA g m + s5 (gsN g m (cmN g m))) = _
    omega
theorem cmN_500 (hI : Inv b g) {m : Nat} (h : m ≤ cn (g 0)) : s5 (cmN g m) ≤ 500 := by
  have := cmN_s (Inv_M hI) m h
  have := n0_500 (Inv_S hI)
  omega
theorem bkN_le (hI : Inv b g) (k : Nat) : bkN g k ≤ cmN g (cn (g 0)) k := by
  obtain ⟨e, l, u⟩ := ok_cn (Inv_S hI).2.1 (by omega)
  have := Nat.mul_le_mul_left (cmN g (cn (g 0)) k) u
  unfold bkN; omega
theorem mul100 {a r : Nat} (ha : a ≤ 500) (hr : r ≤ 100) : a * r ≤ 50000 := by
  have := Nat.mul_le_mul ha hr; omega
/-- a machine sorts out, the class -/
theorem tc_sort {m : Nat} {f P : XRow} {c e : Nat → Nat} {post : Int32 × XRow → Prop} (hI : IM g) (hM : RM f g) (hm : m < cn (g 0)) (hc : ∀ k, k < 5 → P (45 + k) = nI (c k)) (he : ∀ k, k < 5 → P (m * 5 + k) = nI (e k)) (h500 : s5 c ≤ 500) (h : post (nI (s5 (gsN g m c)), fil (fil P 45 5 (fun k => nI (c k - gsN g m c k))) (m * 5) 5 (fun k => nI (e k + gsN g m c k)))) : wp_X4_sortOut f P (nI m) post := by
  have h6 := (IM_mc hI).2
  refine tb_sum (I := 9) rfl (by omega) (by omega) ?_
  rw [show 9 * 5 = 45 from rfl, i5_nI (q := c) hc]
  refine tb_get (W := 7) (I := m) (J := 0) rfl rfl rfl (by omega) (by omega) ?_
  rw [(hM m hm).1 0 (by omega), Nat.add_zero]
  refine loop_0 (fun n i (s : Int32 × XRow) => wp_X4_sortOut_L26 f (nI m) (nI (s5 c)) (g (26 + 11 * m)) (fun (_ : Int32) (v19 : Int32) (v20 : XRow) => post (v19, v20)) n (nI i) s.1 s.2) (fun i s => s.1 = nI (pfx (gsN g m c) i) ∧ s.2 = fil (fil P 45 i (fun k => nI (c k - gsN g m c k))) (m * 5) i (fun k => nI (e k + gsN g m c k))) 5 (0, P) ⟨rfl, by rw [fil_0, fil_0]⟩ ?_ ?_
  · intro n s hs
    refine if_y (nI_le (a := 5) (b := 5) (by omega) (by omega)) ?_
    show post (s.1, s.2)
    rw [hs.1, hs.2, pfx_5]
    exact h
  · intro n i s hi hs hk
    obtain ⟨v4, v5⟩ := s
    obtain ⟨t1, t2⟩ := hs
    dsimp only at t1 t2
    subst t1 t2
    have e1 : nI i + 1 = nI (i + 1) := nI_1 i
    have hci : c i ≤ 500 := by have := s5_ge c i hi; omega
    have hrt := rtN_le hI hm (s5 c) i
    have h5 := mul100 hci hrt
    have hg : gsN g m c i ≤ c i := gsN_le hI hm c i
    have hv : ∀ r : Nat, r = rtN g m (s5 c) i → (nI (c i) * nI r) / 100 = nI (gsN g m c i) := fun r hr => by
      subst hr
      rw [pk_mul, show (100 : Int32) = nI 100 from rfl, pk_div (by omega) (by omega) (by omega)]
      rfl
    have gb : fil (fil P 45 i (fun k => nI (c k - gsN g m c k))) (m * 5) i (fun k => nI (e k + gsN g m c k)) (9 * 5 + i) = nI (c i) := by
      rw [fil_out (by omega), fil_out (by omega)]; exact hc i hi
    have gm : fil (fil P 45 i (fun k => nI (c k - gsN g m c k))) (m * 5) i (fun k => nI (e k + gsN g m c k)) (m * 5 + i) = nI (e i) := by
      rw [fil_out (by omega), fil_out (by omega)]; exact he i hi
    have fin : ∀ (r : Nat), r = rtN g m (s5 c) i → wp_X6_get 5 50 (fil (fil P 45 i (fun k => nI (c k - gsN g m c k))) (m * 5) i (fun k => nI (e k + gsN g m c k))) 9 (nI i) (fun u7 : Int32 => ∀ x8 : Int32, x8 = (u7 * nI r) / 100 → (wp_X6_move 5 50 (fil (fil P 45 i (fun k => nI (c k - gsN g m c k))) (m * 5) i (fun k => nI (e k + gsN g m c k))) 9 (nI m) (nI i) x8 (fun u9 : XRow => ∀ x10 : Int32, x10 = nI (pfx (gsN g m c) i) + x8 → (∀ x11 : Int32, x11 = nI i + 1 → (wp_X4_sortOut_L26 f (nI m) (nI (s5 c)) (g (26 + 11 * m)) (fun (_ : Int32) (v19 : Int32) (v20 : XRow) => post (v19, v20)) n x11 x10 u9))))) := fun r hr => by
      refine tb_get (W := 5) (I := 9) (J := i) rfl rfl rfl (by omega) (by omega) ?_
      intro x hx
      rw [gb, hv r hr] at hx
      subst hx
      refine tb_move (W := 5) (I := 9) (I2 := m) (J := i) rfl rfl rfl rfl (by omega) (by omega) (by omega) ?_
      intro y hy z hz
      rw [hy, hz, e1, nI_add]
      refine hk (_, _) ⟨rfl, ?_⟩
      show _ = fil (fil P 45 (i + 1) (fun k => nI (c k - gsN g m c k))) (m * 5) (i + 1) (fun k => nI (e k + gsN g m c k))
      rw [gb, un (show m * 5 + i ≠ 9 * 5 + i by omega), gm, nI_add, ← Int32.sub_eq_add_neg, pk_sub hg]
      exact fil2_s (v := fun k => nI (c k - gsN g m c k)) (w := fun k => nI (e k + gsN g m c k)) (by omega) hi
    refine if_n (nI_ge (a := i) (b := 5) hi (by omega)) ⟨fun ht => ?_, fun ht => ?_⟩
    · refine tc_rate hI hM hm rfl rfl (by omega) (mis := false) (flow := s5 c) ?_
      exact fin _ (by unfold rtN; rw [if_pos ht]; rfl)
    · refine tc_rate hI hM hm rfl rfl (by omega) (mis := true) (flow := s5 c) ?_
      exact fin _ (by unfold rtN; rw [if_neg ht]; rfl)
/-- the belt cleared, the class -/
theorem tc_clear {f P : XRow} {c h0 w0 : Nat → Nat} {lp : Nat} {post : Int32 × XRow → Prop} (hl : f 1 = nI lp) (hlp : lp ≤ 100) (hc : ∀ k, k < 5 → P (45 + k) = nI (c k)) (hh : ∀ k, k < 5 → P (30 + k) = nI (h0 k)) (hw : ∀ k, k < 5 → P (35 + k) = nI (w0 k)) (h500 : s5 c ≤ 500) (h : post (nI (s5 (fun k => c k - c k * lp / 100)), fil (fil (fil P 45 5 (fun _ => 0)) 30 5 (fun k => nI (h0 k + c k * lp / 100))) 35 5 (fun k => nI (w0 k + (c k - c k * lp / 100))))) : wp_X4_clearBelt f P post := by
  refine loop_0 (fun n i (s : Int32 × XRow) => wp_X4_clearBelt_L4 f (fun (_ : Int32) (v12 : Int32) (v13 : XRow) => post (v12, v13)) n (nI i) s.1 s.2) (fun i s => s.1 = nI (pfx (fun k => c k - c k * lp / 100) i) ∧ s.2 = fil (fil (fil P 45 i (fun _ => 0)) 30 i (fun k => nI (h0 k + c k * lp / 100))) 35 i (fun k => nI (w0 k + (c k - c k * lp / 100)))) 5 (0, P) ⟨rfl, by rw [fil_0, fil_0, fil_0]⟩ ?_ ?_
  · intro n s hs
    refine if_y (nI_le (a := 5) (b := 5) (by omega) (by omega)) ?_
    show post (s.1, s.2)
    rw [hs.1, hs.2, pfx_5]
    exact h
  · intro n i s hi hs hk
    obtain ⟨hs1, hs2⟩ := hs
    have e1 : nI i + 1 = nI (i + 1) := nI_1 i
    have hci : c i ≤ 500 := by have := s5_ge c i hi; omega
    have h5 := mul100 hci hlp
    have hb : c i * lp / 100 ≤ c i := by have := Nat.mul_le_mul_left (c i) hlp; omega
    have b1 : s.2 (9 * 5 + i) = nI (c i) := by
      rw [hs2, fil_out (by omega), fil_out (by omega), fil_out (by omega)]; exact hc i hi
    have b2 : s.2 (6 * 5 + i) = nI (h0 i) := by
      rw [hs2, fil_out (by omega), fil_out (by omega), fil_out (by omega)]; exact hh i hi
    have b3 : s.2 (7 * 5 + i) = nI (w0 i) := by
      rw [hs2, fil_out (by omega), fil_out (by omega), fil_out (by omega)]; exact hw i hi
    refine if_n (nI_ge (a := i) (b := 5) hi (by omega)) (tb_get (W := 5) (I := 9) (J := i) rfl rfl rfl (by omega) (by omega) (tb_get (W := 5) (I := 0) (J := 1) rfl rfl rfl (by omega) (by omega) ?_))
    intro x hx
    have ex : x = nI (c i * lp / 100) := by
      rw [hx, b1, show f (0 * 5 + 1) = nI lp from hl, pk_mul, show (100 : Int32) = nI 100 from rfl, pk_div (by omega) (by omega) (by omega)]
    subst ex
    rw [b1, pk_sub hb]
    refine tb_move (W := 5) (I := 9) (I2 := 6) (J := i) rfl rfl rfl rfl (by omega) (by omega) (by omega) (tb_move (W := 5) (I := 9) (I2 := 7) (J := i) rfl rfl rfl rfl (by omega) (by omega) (by omega) ?_)
    intro y hy z hz
    rw [hy, hz, e1, hs1, nI_add]
    have hk' : ∀ (a : Int32) (r : XRow), a = nI (pfx (fun k => c k - c k * lp / 100) (i + 1)) → r = fil (fil (fil P 45 (i + 1) (fun _ => 0)) 30 (i + 1) (fun k => nI (h0 k + c k * lp / 100))) 35 (i + 1) (fun k => nI (w0 k + (c k - c k * lp / 100))) → wp_X4_clearBelt_L4 f (fun (_ : Int32) (v12 : Int32) (v13 : XRow) => post (v12, v13)) n (nI (i + 1)) a r := fun a r h1 h2 => hk (a, r) ⟨h1, h2⟩
    refine hk' _ _ rfl ?_
    have z0 : nI (c i - c i * lp / 100) + -nI (c i - c i * lp / 100) = 0 := by rw [← Int32.sub_eq_add_neg, Int32.sub_self]
    rw [b1, un (show 6 * 5 + i ≠ 9 * 5 + i by omega), b2, un (show 9 * 5 + i ≠ 6 * 5 + i by omega), pk_us, ← Int32.sub_eq_add_neg (nI (c i)), pk_sub hb, z0, un (show 7 * 5 + i ≠ 9 * 5 + i by omega), un (show 7 * 5 + i ≠ 6 * 5 + i by omega), un (show 7 * 5 + i ≠ 9 * 5 + i by omega), b3, nI_add, nI_add, hs2]
    funext j
    by_cases j1 : j = 7 * 5 + i
    · subst j1
      rw [pk_us, show 7 * 5 + i = 35 + i by omega, fil_in (by omega)]
    · rw [un j1]
      by_cases j2 : j = 9 * 5 + i
      · subst j2
        rw [pk_us, fil_out (by omega), fil_out (by omega), show 9 * 5 + i = 45 + i by omega, fil_in (by omega)]
      · rw [un j2]
        by_cases j3 : j = 6 * 5 + i
        · subst j3
          rw [pk_us, fil_out (by omega), show 6 * 5 + i = 30 + i by omega, fil_in (by omega)]
        · rw [un j3, un j2]
          by_cases r1 : 35 ≤ j ∧ j < 35 + i
          · obtain ⟨x, rfl⟩ : ∃ x, j = 35 + x := ⟨j - 35, by omega⟩
            rw [fil_in (by omega), fil_in (by omega)]
          · rw [fil_out (by omega), fil_out (b := 35) (by omega)]
            by_cases r2 : 30 ≤ j ∧ j < 30 + i
            · obtain ⟨x, rfl⟩ : ∃ x, j = 30 + x := ⟨j - 30, by omega⟩
              rw [fil_in (by omega), fil_in (by omega)]
            · rw [fil_out (by omega), fil_out (b := 30) (by omega)]
              by_cases r3 : 45 ≤ j ∧ j < 45 + i
              · obtain ⟨x, rfl⟩ : ∃ x, j = 45 + x := ⟨j - 45, by omega⟩
                rw [fil_in (by omega), fil_in (by omega)]
              · rw [fil_out (by omega), fil_out (by omega)]
/-! values behind the belt -/
theorem pS_at (P : XRow) {m : Nat} (hm : m ≤ 6) : (∀ k, k < 5 → pS P g m (45 + k) = nI (cmN g m k)) ∧ (∀ k, k < 5 → pS P g m (30 + k) = nI (kq g 11 k - shr (kq g 11) (n0 g) k)) ∧ (∀ j, 35 ≤ j → j < 45 → pS P g m j = P j) ∧ (∀ j, m * 5 ≤ j → j < 30 → pS P g m j = P j) ∧ (∀ q, q < m → ∀ k, k < 5 → pS P g m (q * 5 + k) = nI (cn (g (31 + 11 * q + k)) + gsN g q (cmN g q) k)) := by
  induction m with
  | zero =>
    refine ⟨fun k hk => ?_, fun k hk => ?_, fun j h1 h2 => ?_, fun j h1 h2 => ?_, fun q hq => absurd hq (Nat.not_lt_zero _)⟩
    · show fil (fil P (9 * 5) 5 _) (6 * 5) 5 _ (45 + k) = _
      rw [fil_out (by omega), show 45 + k = 9 * 5 + k by omega, fil_in hk]
      rfl
    · show fil (fil P (9 * 5) 5 _) (6 * 5) 5 _ (30 + k) = _
      rw [show 30 + k = 6 * 5 + k by omega, fil_in hk]
    · show fil (fil P (9 * 5) 5 _) (6 * 5) 5 _ j = _
      rw [fil_out (by omega), fil_out (by omega)]
    · show fil (fil P (9 * 5) 5 _) (6 * 5) 5 _ j = _
      rw [fil_out (by omega), fil_out (by omega)]
  | succ m ih =>
    obtain ⟨i1, i2, i3, i4, i5⟩ := ih (by omega)
    refine ⟨fun k hk => ?_, fun k hk => ?_, fun j h1 h2 => ?_, fun j h1 h2 => ?_, fun q hq k hk => ?_⟩
    · show fil (fil (pS P g m) 45 5 _) (m * 5) 5 _ (45 + k) = _
      rw [fil_out (by omega), fil_in hk]
    · show fil (fil (pS P g m) 45 5 _) (m * 5) 5 _ (30 + k) = _
      rw [fil_out (by omega), fil_out (by omega)]; exact i2 k hk
    · show fil (fil (pS P g m) 45 5 _) (m * 5) 5 _ j = _
      rw [fil_out (by omega), fil_out (by omega)]; exact i3 j h1 h2
    · show fil (fil (pS P g m) 45 5 _) (m * 5) 5 _ j = _
      rw [fil_out (by omega), fil_out (by omega)]; exact i4 j (by omega) h2
    · show fil (fil (pS P g m) 45 5 _) (m * 5) 5 _ (q * 5 + k) = _
      by_cases h : q = m
      · subst h; rw [fil_in hk]
      · rw [fil_out (by omega), fil_out (by omega)]; exact i5 q (by omega) k hk
theorem gS_at {m : Nat} (hm : m ≤ 6) : (∀ k, k < 5 → gS g m (11 + k) = nI (kq g 11 k - shr (kq g 11) (n0 g) k)) ∧ (∀ j, (j < 11 ∨ 16 ≤ j) → (∀ q, q < m → j < 31 + 11 * q ∨ 36 + 11 * q ≤ j) → gS g m j = g j) ∧ (∀ q, q < m → ∀ k, k < 5 → gS g m (31 + 11 * q + k) = nI (cn (g (31 + 11 * q + k)) + gsN g q (cmN g q) k)) := by
  induction m with
  | zero =>
    exact ⟨fun k hk => fil_in hk, fun j h1 _ => fil_out (by omega), fun q hq => absurd hq (Nat.not_lt_zero _)⟩
  | succ m ih =>
    obtain ⟨i1, i2, i3⟩ := ih (by omega)
    refine ⟨fun k hk => ?_, fun j h1 h2 => ?_, fun q hq k hk => ?_⟩
    · show fil (gS g m) (31 + 11 * m) 5 _ (11 + k) = _
      rw [fil_out (by omega)]; exact i1 k hk
    · show fil (gS g m) (31 + 11 * m) 5 _ j = _
      have := h2 m (by omega)
      rw [fil_out (by omega)]; exact i2 j h1 (fun q hq => h2 q (by omega))
    · show fil (gS g m) (31 + 11 * m) 5 _ (31 + 11 * q + k) = _
      by_cases h : q = m
      · subst h; rw [fil_in hk]
      · rw [fil_out (by omega)]; exact i3 q (by omega) k hk
/-- the class's pass up to the bales -/
theorem tc_belt {f fm P R : XRow} {mc : Int32} {KK : Int32 → XRow → XRow → Prop} (hI : Inv b g) (hb : b ≤ 600) (hS : RS f g) (hM : RM fm g) (hP : RP P g) (hmc : mc = g 0) (h : ∀ R', KK (nI (gsA g (cn (g 0)) + wsN g)) (pC P g) R') : wp_X4_setting f 0 (fun u1 : Int32 => wp_X6_sum 5 50 P 6 (fun u2 : Int32 => wp_X4_takeShare_o5 P R 6 (xMin u1 u2) 9 (fun u3 : XRow × XRow => ∃ fl, wp_X4_makePass_L41 fm mc (fun (_ : Int32) (v11 : Int32) (v12 : XRow) => wp_X4_clearBelt f v12 (fun u13 : Int32 × XRow => ∀ x14 : Int32, x14 = v11 + u13.1 → KK x14 u13.2 u3.2)) fl 0 0 u3.1))) := by
  subst hmc
  obtain ⟨em, h6⟩ := IM_mc (Inv_M hI)
  obtain ⟨s0, l0, u0⟩ := ok_cn (Inv_S hI).1 (by omega)
  obtain ⟨s1, l1, u1⟩ := ok_cn (Inv_S hI).2.1 (by omega)
  have hK := Inv_K hI
  have htot := hK.2.2.1
  have hq : ∀ k, k < 5 → P (6 * 5 + k) = nI (kq g 11 k) := fun k hk => by
    rw [show 6 * 5 + k = 30 + k by omega, (hP.1 k hk).1]
    exact (hK.1 k hk).1
  have hs5 : s5 (kq g 11) ≤ 999 * b := by unfold tot at htot; omega
  refine tb_get (W := 5) (I := 0) (J := 0) rfl rfl rfl (by omega) (by omega) (tb_sum (I := 6) rfl (by omega) (by omega) ?_)
  rw [show 0 * 5 + 0 = 0 from rfl, hS 0 (by omega), i5_nI hq]
  conv => arg 4; rw [show g (6 + 0) = nI (cn (g 6)) from s0, xMin_nI (by omega) (by omega)]
  refine tb_take5 (I := 6) (J := 9) (n := n0 g) rfl rfl rfl hq (by omega) (by omega) (by omega) (by omega) (n0_le g) (fun R' => ?_)
  refine loop_0 (fun n i (s : Int32 × XRow) => wp_X4_makePass_L41 fm (g 0) (fun (_ : Int32) (v11 : Int32) (v12 : XRow) => wp_X4_clearBelt f v12 (fun u13 : Int32 × XRow => ∀ x14 : Int32, x14 = v11 + u13.1 → KK x14 u13.2 R')) n (nI i) s.1 s.2) (fun i s => s.1 = nI (gsA g i) ∧ s.2 = pS P g i) (cn (g 0)) (0, _) ⟨rfl, rfl⟩ ?_ ?_
  · intro n s hs
    obtain ⟨v4, v5⟩ := s
    obtain ⟨t1, t2⟩ := hs
    dsimp only at t1 t2
    subst t1 t2
    obtain ⟨p1, p2, p3, p4, p5⟩ := pS_at (g := g) P h6
    refine if_y ?_ (tc_clear (c := cmN g (cn (g 0))) (h0 := fun k => kq g 11 k - shr (kq g 11) (n0 g) k) (w0 := fun k => cn (g (16 + k))) (lp := cn (g 7)) ?_ u1 p1 p2 (fun k hk => ?_) (cmN_500 hI (Nat.le_refl _)) ?_)
    · conv => lhs; rw [em]
      exact nI_le (Nat.le_refl _) (by omega)
    · rw [hS 1 (by omega)]; exact s1
    · exact (p3 (35 + k) (by omega) (by omega)).trans (((hP.1 k hk).2.1).trans (hK.1 k hk).2.1)
    · intro x hx
      rw [hx]
      show KK (nI (gsA g (cn (g 0))) + nI _) _ _
      rw [nI_add]
      exact h R'
  · intro n i s hi hs hk
    obtain ⟨v4, v5⟩ := s
    obtain ⟨t1, t2⟩ := hs
    dsimp only at t1 t2
    subst t1 t2
    have e1 : nI i + 1 = nI (i + 1) := nI_1 i
    obtain ⟨p1, p2, p3, p4, p5⟩ := pS_at (g := g) P (show i ≤ 6 by omega)
    refine if_n ?_ (tc_sort (c := cmN g i) (e := fun k => cn (g (31 + 11 * i + k))) (Inv_M hI) hM hi p1 (fun k hk => ?_) (cmN_500 hI (by omega)) ?_)
    · conv => arg 1; lhs; rw [em]
      exact nI_ge hi (by omega)
    · exact (p4 (i * 5 + k) (by omega) (by omega)).trans ((hP.2.1 i hi k hk).trans (hK.2.1 i hi k hk))
    · intro x hx y hy
      rw [hx, hy, e1]
      show wp_X4_makePass_L41 fm (g 0) _ n (nI (i + 1)) (nI (gsA g i) + nI _) _
      rw [nI_add]
      exact hk (_, _) ⟨rfl, rfl⟩
end PA
