/-! ===== level 2: one command carried out ===== -/
def cB (g : XRow) (p0 p1 p2 p3 : Int32) : Bool := wi p0 0 4 && wi p1 0 1000 && wi p2 1 9999 && wi p3 1 99 && decide (cn (g 3) < 8)
def fB (g : XRow) (p0 p1 : Int32) : Bool := wi p0 0 4 && wi p1 1 999 && decide (nI (s5 (kq g 11)) + p1 ≤ 9999)
def nB (g : XRow) (p0 : Int32) : Bool := wi p0 1 200 && decide (0 < cn (g 0))
def sB (g : XRow) (p0 : Int32) : Bool := wi p0 0 (g 2 - 1) && decide (agR g (cn p0) = 0)
def stB (g : XRow) (r : Nat → Int32) : Bool := if r 0 = 99 then cB g (r 1) (r 2) (r 3) (r 4) else if r 0 = 102 then fB g (r 1) (r 2) else if r 0 = 114 then nB g (r 1) else sB g (r 1)
def stG (g : XRow) (r : Nat → Int32) : XRow := if r 0 = 99 then oCon g (r 1) (r 2) (r 3) (r 4) else if r 0 = 102 then oFeed g (cn (r 1)) (r 2) else if r 0 = 114 then (rnG (cn (r 1)) 0 g).2 else oSell g (cn (r 1)) ((bfN g (cn (r 1)) (cn (g 3))).getD 0)
/-- the six numbers of a report -/
def six (R : XRow) (x0 x1 x2 x3 x4 x5 : Int32) : Prop := R 0 = x0 ∧ R 1 = x1 ∧ R 2 = x2 ∧ R 3 = x3 ∧ R 4 = x4 ∧ R 5 = x5
/-- the class's plant after a command -/
def nxD (d : PD) (u : Int32 × Int32 × XRow × XRow × Int32 × XRow × Int32 × XRow × XRow) : PD := (d.1, u.2.2.1, u.2.2.2.1, u.2.2.2.2.2.1, u.2.2.2.2.1, d.2.2.2.2.2.1, u.2.2.2.2.2.2.2.1, u.2.2.2.2.2.2.1, u.2.2.2.2.2.2.2.2, d.2.2.2.2.2.2.2.2.2.1, u.1, u.2.1)
section ST
variable {b : Nat} {d : PD} {g : XRow}
theorem tc_fnew {p0 p1 p2 p3 : Int32} {post : Fin 4 → Prop} (hR : Rel b d g) (h0 : cB g p0 p1 p2 p3 = true → post 0) (h1 : cB g p0 p1 p2 p3 = false → ∀ v, ¬ v = 0 → post v) : wp_X1_faultOfNew d.2.2.2.2.2.2.2.1 p0 p1 p2 p3 post := by
  obtain ⟨e3, h8⟩ := IC_nc (Inv_C hR.1)
  unfold cB at h0 h1
  unfold wp_X1_faultOfNew
  refine tw_mat ?_
  cases w0 : wi p0 0 4 with
  | false => rw [w0] at h1; exact bb_f rfl (h1 rfl 1 (by decide))
  | true =>
    rw [w0] at h0 h1
    refine bb_t rfl (tw_wi ?_)
    cases w1 : wi p1 0 1000 with
    | false => rw [w1] at h1; exact bb_f rfl (h1 rfl 2 (by decide))
    | true =>
      rw [w1] at h0 h1
      refine bb_t rfl (tw_wi ?_)
      cases w2 : wi p2 1 9999 with
      | false => rw [w2] at h1; exact bb_f rfl (h1 rfl 2 (by decide))
      | true =>
        rw [w2] at h0 h1
        refine bb_t rfl (tw_wi ?_)
        cases w3 : wi p3 1 99 with
        | false => rw [w3] at h1; exact bb_f rfl (h1 rfl 2 (by decide))
        | true =>
          rw [w3] at h0 h1
          refine bb_t rfl ?_
          by_cases hc : cn (g 3) < 8
          · rw [decide_eq_true hc] at h0
            exact if_y (by rw [Rel_cc hR, e3]; exact nI_lt (b := 8) hc (by omega)) (h0 rfl)
          · rw [decide_eq_false hc] at h1
            exact if_n (by rw [Rel_cc hR, e3]; exact nI_nlt (a := cn (g 3)) (b := 8) (by omega) (by omega)) (h1 rfl 3 (by decide))
theorem tm_fnew {p0 p1 p2 p3 : Int32} {post : Int32 → Prop} (hI : Inv b g) (h0 : cB g p0 p1 p2 p3 = true → post 0) (h1 : cB g p0 p1 p2 p3 = false → ∀ v, ¬ v = 0 → post v) : wp_X9_againstContract g p0 p1 p2 p3 post := by
  obtain ⟨e3, h8⟩ := IC_nc (Inv_C hI)
  unfold cB at h0 h1
  unfold wp_X9_againstContract
  refine tw_mat9 ?_
  cases w0 : wi p0 0 4 with
  | false => rw [w0] at h1; exact bb_f rfl (h1 rfl 1 (by decide))
  | true =>
    rw [w0] at h0 h1
    refine bb_t rfl (tw_in ?_)
    cases w1 : wi p1 0 1000 with
    | false => rw [w1] at h1; exact bb_f rfl (h1 rfl 2 (by decide))
    | true =>
      rw [w1] at h0 h1
      refine bb_t rfl (tw_in ?_)
      cases w2 : wi p2 1 9999 with
      | false => rw [w2] at h1; exact bb_f rfl (h1 rfl 2 (by decide))
      | true =>
        rw [w2] at h0 h1
        refine bb_t rfl (tw_in ?_)
        cases w3 : wi p3 1 99 with
        | false => rw [w3] at h1; exact bb_f rfl (h1 rfl 2 (by decide))
        | true =>
          rw [w3] at h0 h1
          refine bb_t rfl ⟨v672 (n := 3) (by omega), ?_⟩
          by_cases hc : cn (g 3) < 8
          · rw [decide_eq_true hc] at h0
            have ne : ¬ g ((3 : Int32).toNatClampNeg) = 8 := fun e => by
              have e2 : cn (g 3) = 8 := congrArg cn e
              omega
            exact if_n ne (h0 rfl)
          · rw [decide_eq_false hc] at h1
            have ey : g ((3 : Int32).toNatClampNeg) = 8 := by
              have : cn (g 3) = 8 := by omega
              rw [this] at e3
              exact e3
            exact if_y ey (h1 rfl 3 (by decide))
theorem tc_ffeed {p0 p1 : Int32} {post : Fin 4 → Prop} (hR : Rel b d g) (h0 : fB g p0 p1 = true → post 0) (h1 : fB g p0 p1 = false → ∀ v, ¬ v = 0 → post v) : wp_X4_faultOfFeed d.2.2.1 p0 p1 post := by
  unfold fB at h0 h1
  unfold wp_X4_faultOfFeed
  refine tw_mat ?_
  cases w0 : wi p0 0 4 with
  | false => rw [w0] at h1; exact bb_f rfl (h1 rfl 1 (by decide))
  | true =>
    rw [w0] at h0 h1
    refine bb_t rfl (tw_wi ?_)
    cases w1 : wi p1 1 999 with
    | false => rw [w1] at h1; exact bb_f rfl (h1 rfl 2 (by decide))
    | true =>
      rw [w1] at h0 h1
      refine bb_t rfl (tb_sum (I := 6) rfl (by omega) (by omega) ?_)
      have es : i5 d.2.2.1 (6 * 5) = nI (s5 (kq g 11)) := i5_nI (q := kq g 11) (fun k hk => ((Rel_P hR).1 k hk).1.trans ((Inv_K hR.1).1 k hk).1)
      rw [es]
      by_cases hc : nI (s5 (kq g 11)) + p1 ≤ 9999
      · rw [decide_eq_true hc] at h0; exact if_y hc (h0 rfl)
      · rw [decide_eq_false hc] at h1; exact if_n hc (h1 rfl 3 (by decide))
theorem tm_ffeed {p0 p1 : Int32} {post : Int32 → Prop} (hI : Inv b g) (h0 : fB g p0 p1 = true → post 0) (h1 : fB g p0 p1 = false → ∀ v, ¬ v = 0 → post v) : wp_X9_againstFeed g p0 p1 post := by
  unfold fB at h0 h1
  unfold wp_X9_againstFeed
  refine tw_mat9 ?_
  cases w0 : wi p0 0 4 with
  | false => rw [w0] at h1; exact bb_f rfl (h1 rfl 1 (by decide))
  | true =>
    rw [w0] at h0 h1
    refine bb_t rfl (tw_in ?_)
    cases w1 : wi p1 1 999 with
    | false => rw [w1] at h1; exact bb_f rfl (h1 rfl 2 (by decide))
    | true =>
      rw [w1] at h0 h1
      refine bb_t rfl (tq_sum (a := 11) rfl (by omega) ?_)
      rw [i5_g (fun k hk => ((Inv_K hI).1 k hk).1)]
      by_cases hc : nI (s5 (kq g 11)) + p1 ≤ 9999
      · rw [decide_eq_true hc] at h0; exact if_y hc (h0 rfl)
      · rw [decide_eq_false hc] at h1; exact if_n hc (h1 rfl 3 (by decide))
theorem tc_fpass {p0 : Int32} {post : Fin 4 → Prop} (hR : Rel b d g) (h0 : nB g p0 = true → post 0) (h1 : nB g p0 = false → ∀ v, ¬ v = 0 → post v) : wp_X4_faultOfPasses d.2.2.2.2.2.2.2.2.2.1 p0 post := by
  obtain ⟨e0, h6⟩ := IM_mc (Inv_M hR.1)
  unfold nB at h0 h1
  unfold wp_X4_faultOfPasses
  refine tw_wi ?_
  cases w0 : wi p0 1 200 with
  | false => rw [w0] at h1; exact bb_f rfl (h1 rfl 2 (by decide))
  | true =>
    rw [w0] at h0 h1
    refine bb_t rfl ?_
    by_cases hc : 0 < cn (g 0)
    · rw [decide_eq_true hc] at h0
      exact if_y (by rw [Rel_mc hR, e0]; exact nI_lt (a := 0) hc (by omega)) (h0 rfl)
    · rw [decide_eq_false hc] at h1
      exact if_n (by rw [Rel_mc hR, e0]; exact nI_nlt (a := 0) (b := cn (g 0)) (by omega) (by omega)) (h1 rfl 3 (by decide))
theorem tm_fpass {p0 : Int32} {post : Int32 → Prop} (hI : Inv b g) (h0 : nB g p0 = true → post 0) (h1 : nB g p0 = false → ∀ v, ¬ v = 0 → post v) : wp_X9_againstRun g p0 post := by
  obtain ⟨e0, h6⟩ := IM_mc (Inv_M hI)
  unfold nB at h0 h1
  unfold wp_X9_againstRun
  refine tw_in ?_
  cases w0 : wi p0 1 200 with
  | false => rw [w0] at h1; exact bb_f rfl (h1 rfl 1 (by decide))
  | true =>
    rw [w0] at h0 h1
    refine bb_t rfl ⟨v672 (n := 0) (by omega), ?_⟩
    by_cases hc : 0 < cn (g 0)
    · rw [decide_eq_true hc] at h0
      have ne : ¬ g ((0 : Int32).toNatClampNeg) = 0 := fun e => by
        have e2 : cn (g 0) = 0 := congrArg cn e
        omega
      exact if_n ne (h0 rfl)
    · rw [decide_eq_false hc] at h1
      have ey : g ((0 : Int32).toNatClampNeg) = 0 := by
        have : cn (g 0) = 0 := by omega
        rw [this] at e0
        exact e0
      exact if_y ey (h1 rfl 2 (by decide))
/-- the report of a refused sale, the class -/
theorem tc_rep {rP : XRow} {p0 p1 p2 p3 p4 : Int32} {post : Int32 × XRow → Prop} (hp : ¬ p0 = -1) (h : ∀ R, six R 9 p0 p1 p2 p3 p4 → post (3, R)) : wp_X5_replace rP p0 p1 p2 p3 p4 post := by
  unfold wp_X5_replace wp_X5_fill
  refine if_n hp ?_
  refine tb_put (W := 2) (I := 0) (J := 0) rfl rfl rfl (by omega) (by omega) (tb_put (W := 2) (I := 0) (J := 1) rfl rfl rfl (by omega) (by omega) ?_)
  intro x hx
  have ex : x = nI 1 := by rw [hx]; rfl
  subst ex
  refine tb_put (W := 2) (I := 1) (J := 0) rfl rfl rfl (by omega) (by omega) (tb_put (W := 2) (I := 1) (J := 1) rfl rfl rfl (by omega) (by omega) ?_)
  refine tb_put (W := 2) (I := 2) (J := 0) rfl rfl rfl (by omega) (by omega) (tb_put (W := 2) (I := 2) (J := 1) rfl rfl rfl (by omega) (by omega) ?_)
  intro y hy
  have ey : y = 3 := by rw [hy]; rfl
  rw [ey]
  refine h _ ⟨?_, ?_, ?_, ?_, ?_, ?_⟩
  · rw [un (by omega), un (by omega), un (by omega), un (by omega), un (by omega), u_at rfl]
  · rw [un (by omega), un (by omega), un (by omega), un (by omega), u_at rfl]
  · rw [un (by omega), un (by omega), un (by omega), u_at rfl]
  · rw [un (by omega), un (by omega), u_at rfl]
  · rw [un (by omega), u_at rfl]
  · rw [u_at rfl]
/-- a sale: the class refuses it or not, and reports -/
theorem tc_fsale {i : Nat} {rP : XRow} {rL p0 p1 : Int32} {post : Bool × Int32 × XRow → Prop} (hR : Rel b d g) (h1 : p1 = nI i) (hi : i < cn (g 2)) (hp : ¬ p0 = -1) (h0 : agR g i = 0 → post (false, rL, rP)) (h2 : agR g i ≠ 0 → ∀ R md, six R 9 p0 p1 (g (137 + 9 * i)) (nI (agR g i)) (agD g i md) → post (true, 3, R)) : wp_X8_reportsRefusal_otrial d rP rL p0 p1 post := by
  have h60 := (IB_nb (Inv_B hR.1)).2
  have h4 := agR_le g i
  refine tc_refusal hR h1 hi ⟨fun hz => ?_, fun hz => ?_⟩
  · refine h0 ?_
    by_cases e : agR g i = 0
    · exact e
    · exact absurd hz (nI_ne0 (by omega) (by omega))
  · have ne : agR g i ≠ 0 := fun e => hz (by rw [e]; rfl)
    subst h1
    have n1 := Rel_N hR i hi
    refine tb_get (W := 12) (I := i) (J := 5) rfl rfl rfl (by omega) (by omega) (tc_detail (md := 0) hR rfl hi rfl ne (tc_rep hp (fun R hs => h2 ne R 0 ?_)))
    have e5 : d.2.2.2.1 (i * 12 + 5) = g (137 + 9 * i) := n1.2.1
    rw [e5] at hs
    exact hs
end ST
