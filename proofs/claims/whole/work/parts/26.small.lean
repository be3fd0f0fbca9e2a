/-! ===== level 2: small methods, both sides ===== -/
abbrev sIO : String := "java/lang/IndexOutOfBoundsException"
abbrev sIA : String := "java/lang/IllegalArgumentException"
abbrev sIS : String := "java/lang/IllegalStateException"
abbrev sNS : String := "java/util/NoSuchElementException"
abbrev sAR : String := "java/lang/ArithmeticException"
abbrev sUO : String := "java/lang/UnsupportedOperationException"
def wi (x lo hi : Int32) : Bool := !decide (x < lo) && !decide (hi < x)
theorem wi_t {x lo hi : Int32} (h : wi x lo hi = true) : ¬ x < lo ∧ ¬ hi < x := by
  unfold wi at h
  simp only [Bool.and_eq_true, Bool.not_eq_true', decide_eq_false_iff_not] at h
  exact h
theorem tw_in {p0 p1 p2 : Int32} {post : Bool → Prop} (h : post (wi p0 p1 p2)) : wp_X9_in p0 p1 p2 post := by
  unfold wi at h
  refine ⟨fun h1 => ?_, fun h1 => ⟨fun h2 => ?_, fun h2 => ?_⟩⟩
  · rw [decide_eq_true h1] at h; exact h
  · rw [decide_eq_false h1, decide_eq_true h2] at h; exact h
  · rw [decide_eq_false h1, decide_eq_false h2] at h; exact h
theorem tw_wi {p0 p1 p2 : Int32} {post : Bool → Prop} (h : post (wi p0 p1 p2)) : wp_X8_isWithin p0 p1 p2 post := by
  unfold wi at h
  refine ⟨fun h1 => ?_, fun h1 => ⟨fun h2 => ?_, fun h2 => ?_⟩⟩
  · rw [decide_eq_true h1] at h; exact h
  · rw [decide_eq_false h1, decide_eq_true h2] at h; exact h
  · rw [decide_eq_false h1, decide_eq_false h2] at h; exact h
theorem wi_ok {x lo hi : Int32} {a b : Nat} (hlo : lo = nI a) (hhi : hi = nI b) (hb : b < 2 ^ 31) (ha : a < 2 ^ 31) (h : wi x lo hi = true) : ok x a b := by
  subst hlo hhi
  obtain ⟨h1, h2⟩ := wi_t h
  have h3 : ¬ x < 0 := by
    intro h0
    rw [Int32.lt_iff_toInt_lt] at h0 h1
    rw [nI_toInt ha] at h1
    have : (0 : Int32).toInt = 0 := rfl
    omega
  obtain ⟨j, hj, rfl⟩ := nI_of h3
  refine ⟨j, ?_, ?_, rfl⟩
  · rcases Nat.lt_or_ge j a with h | h
    · exact absurd (nI_lt h (by omega)) h1
    · exact h
  · rcases Nat.lt_or_ge b j with h | h
    · exact absurd (nI_lt h hj) h2
    · exact h
theorem wi_0 {x hi : Int32} {n : Nat} (hhi : hi = nI n) (hn : n < 2 ^ 31) (h : wi x 0 hi = true) : ∃ k, k ≤ n ∧ x = nI k := by
  obtain ⟨k, _, h2, h3⟩ := wi_ok (a := 0) rfl hhi hn (by omega) h
  exact ⟨k, h2, h3⟩
theorem wi_m1 {x y : Int32} {n : Nat} (hy : y = nI n) (hn : n < 2 ^ 31) (h : wi x 0 (y - 1) = true) : ∃ k, k < n ∧ x = nI k := by
  subst hy
  cases n with
  | zero =>
    exfalso
    obtain ⟨h1, h2⟩ := wi_t h
    rw [Int32.lt_iff_toInt_lt] at h1 h2
    have e1 : (0 : Int32).toInt = 0 := rfl
    have e2 : (nI 0 - 1).toInt = -1 := rfl
    omega
  | succ n =>
    rw [nI_pred] at h
    obtain ⟨k, h1, h2⟩ := wi_0 rfl (by omega) h
    exact ⟨k, by omega, h2⟩
theorem wi_nI {k lo hi : Nat} (h1 : lo ≤ k) (h2 : k ≤ hi) (hh : hi < 2 ^ 31) : wi (nI k) (nI lo) (nI hi) = true := by
  unfold wi
  rw [decide_eq_false (nI_nlt h1 (by omega)), decide_eq_false (nI_nlt h2 hh)]
  rfl
theorem bb_t {A B : Prop} {c : Bool} (h : c = true) (k : A) : (c = true → A) ∧ (c = false → B) := ⟨fun _ => k, fun h2 => Bool.noConfusion (h.symm.trans h2)⟩
theorem bb_f {A B : Prop} {c : Bool} (h : c = false) (k : B) : (c = true → A) ∧ (c = false → B) := ⟨fun h2 => Bool.noConfusion (h.symm.trans h2), fun _ => k⟩
theorem if_y {A B p : Prop} (h : p) (k : A) : (p → A) ∧ (¬ p → B) := ⟨fun _ => k, fun h2 => absurd h h2⟩
theorem if_n {A B p : Prop} (h : ¬ p) (k : B) : (p → A) ∧ (¬ p → B) := ⟨fun h2 => absurd h2 h, fun _ => k⟩
theorem tw_mat {p0 : Int32} {post : Bool → Prop} (h : post (wi p0 0 4)) : wp_X8_isMaterial p0 post := tw_wi h
theorem tw_mat9 {p0 : Int32} {post : Bool → Prop} (h : post (wi p0 0 4)) : wp_X9_isMaterial p0 post := tw_in h
theorem tw_needMat {p0 : Int32} {post : Unit → Prop} {postX : String → Unit → Prop} (h : (wi p0 0 4 = true → post ()) ∧ (wi p0 0 4 = false → postX sIO ())) : wp_X8_needMaterial p0 post postX := tw_mat h
theorem vpz : vp_in 0 1 := vp_in_nI (n := 0) (by omega) (by omega)
theorem v672 {n : Nat} (h : n < 672) : vp_in (nI n) 672 := vp_in_nI h (by omega)
theorem tn_nI {n : Nat} (h : n < 672) : (nI n).toNatClampNeg = n := nI_clamp (by omega)
/-! the words' ends -/
theorem lg_same (y : Int64) : lg_cmp y y = 0 := by
  unfold lg_cmp
  have h : ¬ y < y := Int64.lt_irrefl
  simp [h]
theorem fin0 {A B : Prop} {y : Int64} {vo : Nat → Int64} (h : A) : ((0 : Int32) = 0 → (((0 : Int32) = 0 → (vp_in 0 1 ∧ ((lg_cmp ((vp_updL vo ((0 : Int32).toNatClampNeg) y) ((0 : Int32).toNatClampNeg)) y = 0 → A) ∧ (¬ lg_cmp ((vp_updL vo ((0 : Int32).toNatClampNeg) y) ((0 : Int32).toNatClampNeg)) y = 0 → False)))) ∧ (¬ (0 : Int32) = 0 → B))) ∧ (¬ (0 : Int32) = 0 → False) := by
  have e : lg_cmp ((vp_updL vo ((0 : Int32).toNatClampNeg) y) ((0 : Int32).toNatClampNeg)) y = 0 := by
    rw [pk_uLs]; exact lg_same y
  exact ⟨fun _ => ⟨fun _ => ⟨vpz, fun _ => h, fun h2 => absurd e h2⟩, fun h2 => absurd rfl h2⟩, fun h2 => absurd rfl h2⟩
theorem finE {A B : Prop} {c : Int32} (hc : ¬ c = 0) (h : B) : (c = c → ((c = 0 → A) ∧ (¬ c = 0 → B))) ∧ (¬ c = c → False) :=
  ⟨fun _ => ⟨fun h2 => absurd h2 hc, fun _ => h⟩, fun h2 => absurd rfl h2⟩
/-! what a look at something comes to: a value, or a throw, on both sides -/
def J1 {α : Type} (A : (α → Prop) → (String → Unit → Prop) → Prop) (B : (α × Int32 → Prop) → Prop) (z : α) (e1 : String) : Prop :=
  (∃ v, (∀ post postX, post v → A post postX) ∧ ∀ post, post (v, 0) → B post) ∨ ((∀ post postX, postX e1 () → A post postX) ∧ ∀ post, post (z, 1) → B post)
def J2 {α : Type} (A : (α → Prop) → (String → Unit → Prop) → Prop) (B : (α × Int32 → Prop) → Prop) (z : α) (e1 e2 : String) : Prop :=
  (∃ v, (∀ post postX, post v → A post postX) ∧ ∀ post, post (v, 0) → B post) ∨ ((∀ post postX, postX e1 () → A post postX) ∧ ∀ post, post (z, 1) → B post) ∨ ((∀ post postX, postX e2 () → A post postX) ∧ ∀ post, post (z, 2) → B post)
section LK
variable {b : Nat} {d : PD} {g : XRow}
theorem Rel_mc (h : Rel b d g) : d.2.2.2.2.2.2.2.2.2.1 = g 0 := h.2.2.2.2.2.2.2.2.1
theorem Rel_z (h : Rel b d g) : d.2.2.2.2.2.2.2.2.2.2.1 = g 1 := h.2.2.2.2.2.2.2.2.2.1
theorem Rel_pc (h : Rel b d g) : d.2.2.2.2.2.2.2.2.2.2.2 = g 4 := h.2.2.2.2.2.2.2.2.2.2
theorem Rel_cc (h : Rel b d g) : d.2.2.2.2.2.2.2.1 = g 3 := h.2.2.2.2.2.2.2.1
theorem Rel_bc (h : Rel b d g) : d.2.2.2.2.1 = g 2 := h.2.2.2.2.2.1
theorem Rel_S (h : Rel b d g) : RS d.1 g := h.2.1
theorem Rel_M (h : Rel b d g) : RM d.2.1 g := h.2.2.1
theorem Rel_P (h : Rel b d g) : RP d.2.2.1 g := h.2.2.2.1
theorem Rel_N (h : Rel b d g) : RN d.2.2.2.1 g := h.2.2.2.2.1
theorem Rel_C (h : Rel b d g) : RC d.2.2.2.2.2.2.1 g := h.2.2.2.2.2.2.1
theorem Inv_S (h : Inv b g) : IS g := h.1
theorem Inv_M (h : Inv b g) : IM g := h.2.1
theorem Inv_K (h : Inv b g) : IK b g := h.2.2.1
theorem Inv_C (h : Inv b g) : IC g := h.2.2.2.1
theorem Inv_B (h : Inv b g) : IB g := h.2.2.2.2.1
theorem Inv_P (h : Inv b g) : IP g := h.2.2.2.2.2
theorem tc_needM {p0 : Int32} {post : Unit → Prop} {postX : String → Unit → Prop} (hR : Rel b d g) (h : (wi p0 0 (g 0 - 1) = true → post ()) ∧ (wi p0 0 (g 0 - 1) = false → postX sIO ())) : wp_X8_needMachine d p0 post postX := by
  unfold wp_X8_needMachine
  rw [Rel_mc hR]
  exact tw_wi h
theorem tm_isM {p0 : Int32} {post : Bool → Prop} (h : post (wi p0 0 (g 0 - 1))) : wp_X9_isMachine g p0 post := ⟨v672 (n := 0) (by omega), tw_in h⟩
theorem tc_needB {p0 : Int32} {post : Unit → Prop} {postX : String → Unit → Prop} (hR : Rel b d g) (h : (wi p0 0 (g 2 - 1) = true → post ()) ∧ (wi p0 0 (g 2 - 1) = false → postX sIO ())) : wp_X8_needBale d p0 post postX := by
  unfold wp_X8_needBale wp_X0_isThere
  rw [Rel_bc hR]
  exact tw_wi h
theorem tm_isB {p0 : Int32} {post : Bool → Prop} (h : post (wi p0 0 (g 2 - 1))) : wp_X9_isBale g p0 post := ⟨v672 (n := 2) (by omega), tw_in h⟩
theorem wi_M {p0 : Int32} (hR : Rel b d g) (h : wi p0 0 (g 0 - 1) = true) : ∃ m, m < cn (g 0) ∧ cn (g 0) ≤ 6 ∧ p0 = nI m := by
  obtain ⟨e, h6⟩ := IM_mc (Inv_M hR.1)
  obtain ⟨k, hk, e2⟩ := wi_m1 e (by omega) h
  exact ⟨k, hk, h6, e2⟩
theorem wi_B {p0 : Int32} (hR : Rel b d g) (h : wi p0 0 (g 2 - 1) = true) : ∃ m, m < cn (g 2) ∧ cn (g 2) ≤ 60 ∧ p0 = nI m := by
  obtain ⟨e, h6⟩ := IB_nb (Inv_B hR.1)
  obtain ⟨k, hk, e2⟩ := wi_m1 e (by omega) h
  exact ⟨k, hk, h6, e2⟩
theorem wi_C {p0 : Int32} (hR : Rel b d g) (h : wi p0 0 (g 3 - 1) = true) : ∃ m, m < cn (g 3) ∧ cn (g 3) ≤ 8 ∧ p0 = nI m := by
  obtain ⟨e, h6⟩ := IC_nc (Inv_C hR.1)
  obtain ⟨k, hk, e2⟩ := wi_m1 e (by omega) h
  exact ⟨k, hk, h6, e2⟩
/-! places of the reference's row -/
theorem at_m (m w : Nat) : (26 : Int32) + 11 * nI m + nI w = nI (26 + 11 * m + w) := by
  rw [show (26 : Int32) = nI 26 from rfl, show (11 : Int32) = nI 11 from rfl, pk_mul, nI_add, nI_add]
theorem at_b (m w : Nat) : (132 : Int32) + 9 * nI m + nI w = nI (132 + 9 * m + w) := by
  rw [show (132 : Int32) = nI 132 from rfl, show (9 : Int32) = nI 9 from rfl, pk_mul, nI_add, nI_add]
theorem at_c (m w : Nat) : (92 : Int32) + 5 * nI m + nI w = nI (92 + 5 * m + w) := by
  rw [show (92 : Int32) = nI 92 from rfl, show (5 : Int32) = nI 5 from rfl, pk_mul, nI_add, nI_add]
theorem tm_mAt {p0 p1 : Int32} {m w : Nat} {post : Int32 → Prop} (h0 : p0 = nI m) (h1 : p1 = nI w) (h : post (nI (26 + 11 * m + w))) : wp_X9_machineAt p0 p1 post := by
  subst h0 h1
  show post _
  rw [at_m]
  exact h
theorem tm_bAt {p0 p1 : Int32} {m w : Nat} {post : Int32 → Prop} (h0 : p0 = nI m) (h1 : p1 = nI w) (h : post (nI (132 + 9 * m + w))) : wp_X9_baleAt p0 p1 post := by
  subst h0 h1
  show post _
  rw [at_b]
  exact h
theorem tm_cAt {p0 p1 : Int32} {m w : Nat} {post : Int32 → Prop} (h0 : p0 = nI m) (h1 : p1 = nI w) (h : post (nI (92 + 5 * m + w))) : wp_X9_contractAt p0 p1 post := by
  subst h0 h1
  show post _
  rw [at_c]
  exact h
/-- a look at a place -/
theorem tm_g {n : Nat} {P : Int32 → Prop} (h : n < 672) (k : P (g n)) : vp_in (nI n) 672 ∧ P (g (nI n).toNatClampNeg) := by
  rw [tn_nI h]
  exact ⟨v672 h, k⟩
theorem tm_gM {p0 p1 : Int32} {m w : Nat} {P : Int32 → Prop} (h0 : p0 = nI m) (h1 : p1 = nI w) (h : 26 + 11 * m + w < 672) (k : P (g (26 + 11 * m + w))) : wp_X9_machineAt p0 p1 (fun u => vp_in u 672 ∧ P (g u.toNatClampNeg)) := tm_mAt h0 h1 (tm_g h k)
theorem tm_gB {p0 p1 : Int32} {m w : Nat} {P : Int32 → Prop} (h0 : p0 = nI m) (h1 : p1 = nI w) (h : 132 + 9 * m + w < 672) (k : P (g (132 + 9 * m + w))) : wp_X9_baleAt p0 p1 (fun u => vp_in u 672 ∧ P (g u.toNatClampNeg)) := tm_bAt h0 h1 (tm_g h k)
theorem tm_gC {p0 p1 : Int32} {m w : Nat} {P : Int32 → Prop} (h0 : p0 = nI m) (h1 : p1 = nI w) (h : 92 + 5 * m + w < 672) (k : P (g (92 + 5 * m + w))) : wp_X9_contractAt p0 p1 (fun u => vp_in u 672 ∧ P (g u.toNatClampNeg)) := tm_cAt h0 h1 (tm_g h k)
/-! sums -/
theorem i5_g {a : Nat} (h : ∀ k, k < 5 → kok (g (a + k))) : i5 g a = nI (s5 (kq g a)) := i5_nI h
theorem i5_fg {f : XRow} {a a' : Nat} (h : ∀ k, k < 5 → f (a' + k) = g (a + k)) : i5 f a' = i5 g a := by
  unfold i5
  have h0 : f a' = g a := h 0 (by omega)
  rw [h0, h 1 (by omega), h 2 (by omega), h 3 (by omega), h 4 (by omega)]
theorem RP_bun (h : RP d.2.2.1 g) {m : Nat} (hm : m < cn (g 0)) : ∀ k, k < 5 → d.2.2.1 (m * 5 + k) = g (31 + 11 * m + k) := h.2.1 m hm
theorem j_machine {p0 p1 : Int32} (hR : Rel b d g) : J2 (wp_X8_machine d p0 p1) (wp_X9_machine g p0 p1) 0 sIO sIA := by
  cases hw : wi p0 0 (g 0 - 1) with
  | false => exact Or.inr (Or.inl ⟨fun post postX h => tc_needM hR (bb_f hw h), fun post h => tm_isM (bb_f hw h)⟩)
  | true =>
    obtain ⟨m, hm, h6, rfl⟩ := wi_M hR hw
    cases hw2 : wi p1 0 6 with
    | false => exact Or.inr (Or.inr ⟨fun post postX h => tc_needM hR (bb_t hw (tw_wi (bb_f hw2 h))), fun post h => tm_isM (bb_t hw (tw_in (bb_f hw2 h)))⟩)
    | true =>
      obtain ⟨j, hj, rfl⟩ := wi_0 (n := 6) rfl (by omega) hw2
      have hM := Rel_M hR m hm
      by_cases h5 : j = 5
      · subst h5
        refine Or.inl ⟨i5 g (31 + 11 * m), fun post postX h => tc_needM hR (bb_t hw (tw_wi (bb_t hw2 (if_y rfl (tb_sum (I := m) rfl (by omega) (by omega) ?_))))), fun post h => tm_isM (bb_t hw (tw_in (bb_t hw2 (if_y rfl (tm_mAt (m := m) (w := 5) rfl rfl (tq_sum (a := 31 + 11 * m) (by congr 1; omega) (by omega) h))))))⟩
        rw [i5_fg (g := g) (a := 31 + 11 * m) (RP_bun (Rel_P hR) hm)]
        exact h
      · have h5n : ¬ nI j = 5 := fun e => h5 ((nI_eq (a := j) (b := 5) (by omega) (by omega)).mp e)
        by_cases h6j : j = 6
        · subst h6j
          refine Or.inl ⟨g (36 + 11 * m), fun post postX h => tc_needM hR (bb_t hw (tw_wi (bb_t hw2 (if_n h5n (tb_get (W := 7) (I := m) (J := 6) rfl rfl rfl (by omega) (by omega) ?_))))), fun post h => tm_isM (bb_t hw (tw_in (bb_t hw2 (if_n h5n (if_y rfl (tm_gM (m := m) (w := 10) (P := fun x => post (x, 0)) rfl rfl (by omega) ?_))))))⟩
          · rw [hM.2]; exact h
          · rw [show 26 + 11 * m + 10 = 36 + 11 * m by omega]; exact h
        · have h6n : ¬ nI j = 6 := fun e => h6j ((nI_eq (a := j) (b := 6) (by omega) (by omega)).mp e)
          refine Or.inl ⟨g (26 + 11 * m + j), fun post postX h => tc_needM hR (bb_t hw (tw_wi (bb_t hw2 (if_n h5n (tb_get (W := 7) (I := m) (J := j) rfl rfl rfl (by omega) (by omega) ?_))))), fun post h => tm_isM (bb_t hw (tw_in (bb_t hw2 (if_n h5n (if_n h6n (tm_gM (m := m) (w := j) (P := fun x => post (x, 0)) rfl rfl (by omega) h))))))⟩
          rw [hM.1 j (by omega)]; exact h
/-! rates -/
def exN (g : XRow) (m flow : Nat) : Nat := (flow - cn (g (29 + 11 * m))) / 10
def caN (g : XRow) (m flow : Nat) : Nat := max 10 (cn (g (27 + 11 * m)) - cn (g (30 + 11 * m)) * exN g m flow)
def miN (g : XRow) (m flow : Nat) : Nat := min 90 (cn (g (28 + 11 * m)) + exN g m flow)
theorem xMax_nI {a b : Nat} (ha : a < 2 ^ 31) (hb : b < 2 ^ 31) : xMax (nI a) (nI b) = nI (max a b) := by
  show (if nI a < nI b then _ else _) = _
  by_cases h : a < b
  · rw [if_pos (nI_lt h hb), Nat.max_eq_right (by omega)]
  · rw [if_neg (nI_nlt (by omega) ha), Nat.max_eq_left (by omega)]
theorem xMin_nI {a b : Nat} (ha : a < 2 ^ 31) (hb : b < 2 ^ 31) : xMin (nI a) (nI b) = nI (min a b) := by
  show (if nI b < nI a then _ else _) = _
  by_cases h : b < a
  · rw [if_pos (nI_lt h ha), Nat.min_eq_right (by omega)]
  · rw [if_neg (nI_nlt (by omega) hb), Nat.min_eq_left (by omega)]
theorem xMax_sub {a x y : Nat} (hx : x < 2 ^ 30) (hy : y < 2 ^ 30) (ha : a < 2 ^ 30) : xMax (nI a) (nI x - nI y) = nI (max a (x - y)) := by
  rcases Nat.lt_or_ge x y with h | h
  · show (if nI a < nI x - nI y then _ else _) = _
    have h2 := pk_sneg hy h
    rw [if_neg (fun h3 => ?_), show x - y = 0 by omega, Nat.max_eq_left (by omega)]
    rw [Int32.lt_iff_toInt_lt] at h2 h3
    rw [nI_toInt (by omega)] at h3
    have : (0 : Int32).toInt = 0 := rfl
    omega
  · rw [pk_sub h, xMax_nI (by omega) (by omega)]
theorem ex_le (g : XRow) (m flow : Nat) (h : flow < 2 ^ 20) : exN g m flow < 2 ^ 20 := by
  have : exN g m flow ≤ (flow - cn (g (29 + 11 * m))) := Nat.div_le_self _ _
  omega
theorem tc_rate {p0 p1 : Int32} {m flow : Nat} {mis : Bool} {post : Int32 → Prop} {f : XRow} (hI : IM g) (hM : RM f g) (hm : m < cn (g 0)) (h0 : p0 = nI m) (h1 : p1 = nI flow) (hf : flow < 2 ^ 20) (h : post (nI (if mis then miN g m flow else caN g m flow))) : wp_X4_rateOf f p0 p1 mis post := by
  subst h0 h1
  have h6 := (IM_mc hI).2
  obtain ⟨i1, i2, i3, i4, i5⟩ := hI.2 m hm
  obtain ⟨e2, l2, u2⟩ := ok_cn i2 (by omega)
  obtain ⟨e3, l3, u3⟩ := ok_cn i3 (by omega)
  obtain ⟨e4, l4, u4⟩ := ok_cn i4 (by omega)
  obtain ⟨e5, l5, u5⟩ := ok_cn i5 (by omega)
  have hj := (hM m hm).1
  have hx := ex_le g m flow hf
  have g3 : f (m * 7 + 3) = nI (cn (g (29 + 11 * m))) := by rw [hj 3 (by omega), show 26 + 11 * m + 3 = 29 + 11 * m by omega]; exact e4
  have g2 : f (m * 7 + 2) = nI (cn (g (28 + 11 * m))) := by rw [hj 2 (by omega), show 26 + 11 * m + 2 = 28 + 11 * m by omega]; exact e3
  have g1 : f (m * 7 + 1) = nI (cn (g (27 + 11 * m))) := by rw [hj 1 (by omega), show 26 + 11 * m + 1 = 27 + 11 * m by omega]; exact e2
  have g4 : f (m * 7 + 4) = nI (cn (g (30 + 11 * m))) := by rw [hj 4 (by omega), show 26 + 11 * m + 4 = 30 + 11 * m by omega]; exact e5
  refine tb_get (W := 7) (I := m) (J := 3) rfl rfl rfl (by omega) (by omega) ?_
  intro x hx2
  have ex : x = nI (exN g m flow) := by
    rw [hx2, g3, show (0 : Int32) = nI 0 from rfl, xMax_sub (by omega) (by omega) (by omega), Nat.max_eq_right (by omega), show (10 : Int32) = nI 10 from rfl, pk_div (by omega) (by omega) (by omega)]
    rfl
  subst ex
  cases mis with
  | true =>
    refine ⟨fun _ => tb_get (W := 7) (I := m) (J := 2) rfl rfl rfl (by omega) (by omega) ?_, fun h => Bool.noConfusion h⟩
    rw [g2, nI_add, show (90 : Int32) = nI 90 from rfl, xMin_nI (by omega) (by omega)]
    exact h
  | false =>
    refine ⟨fun h => Bool.noConfusion h, fun _ => tb_get (W := 7) (I := m) (J := 4) rfl rfl rfl (by omega) (by omega) ?_⟩
    intro y hy
    have hmul : cn (g (30 + 11 * m)) * exN g m flow ≤ 9 * 2 ^ 20 := Nat.mul_le_mul u5 (by omega)
    have ey : y = nI (cn (g (30 + 11 * m)) * exN g m flow) := by rw [hy, g4, pk_mul]
    subst ey
    refine tb_get (W := 7) (I := m) (J := 1) rfl rfl rfl (by omega) (by omega) ?_
    rw [g1, show (10 : Int32) = nI 10 from rfl, xMax_sub (by omega) (by omega) (by omega)]
    exact h
theorem tm_excess {p0 p1 : Int32} {m flow : Nat} {post : Int32 → Prop} (hI : IM g) (hm : m < cn (g 0)) (h0 : p0 = nI m) (h1 : p1 = nI flow) (hf : flow < 2 ^ 20) (h : post (nI (exN g m flow))) : wp_X9_excess g p0 p1 post := by
  subst h0 h1
  have h6 := (IM_mc hI).2
  obtain ⟨i1, i2, i3, i4, i5⟩ := hI.2 m hm
  obtain ⟨e4, l4, u4⟩ := ok_cn i4 (by omega)
  have e : 26 + 11 * m + 3 = 29 + 11 * m := by omega
  refine tm_mAt (m := m) (w := 3) rfl rfl ?_
  rw [e]
  refine ⟨v672 (by omega), ?_⟩
  rw [tn_nI (by omega)]
  refine pk_le flow (cn (g (29 + 11 * m))) (fun hle => ?_) (fun hlt => ?_) rfl e4 (by omega) (by omega)
  · have : exN g m flow = 0 := by unfold exN; rw [show flow - cn (g (29 + 11 * m)) = 0 by omega]
    rw [this] at h
    exact h
  · refine tm_mAt (m := m) (w := 3) rfl rfl ?_
    rw [e]
    refine ⟨v672 (by omega), ?_⟩
    rw [tn_nI (by omega), e4, pk_sub (by omega), show (10 : Int32) = nI 10 from rfl, pk_div (by omega) (by omega) (by omega)]
    exact h
theorem tm_catches {p0 p1 : Int32} {m flow : Nat} {post : Int32 → Prop} (hI : IM g) (hm : m < cn (g 0)) (h0 : p0 = nI m) (h1 : p1 = nI flow) (hf : flow < 2 ^ 20) (h : post (nI (caN g m flow))) : wp_X9_catches g p0 p1 post := by
  have h6 := (IM_mc hI).2
  obtain ⟨i1, i2, i3, i4, i5⟩ := hI.2 m hm
  obtain ⟨e2, l2, u2⟩ := ok_cn i2 (by omega)
  obtain ⟨e5, l5, u5⟩ := ok_cn i5 (by omega)
  have hx := ex_le g m flow hf
  have ea : 26 + 11 * m + 1 = 27 + 11 * m := by omega
  have eb : 26 + 11 * m + 4 = 30 + 11 * m := by omega
  refine tm_mAt (m := m) (w := 1) h0 rfl ?_
  rw [ea]
  refine ⟨v672 (by omega), tm_mAt (m := m) (w := 4) h0 rfl ?_⟩
  rw [eb]
  refine ⟨v672 (by omega), tm_excess hI hm h0 h1 hf ?_⟩
  intro x hx2
  have hmul : cn (g (30 + 11 * m)) * exN g m flow ≤ 9 * 2 ^ 20 := Nat.mul_le_mul u5 (by omega)
  rw [tn_nI (by omega), tn_nI (by omega), e2, e5, pk_mul] at hx2
  unfold caN at h
  rcases Nat.lt_or_ge (cn (g (27 + 11 * m))) (cn (g (30 + 11 * m)) * exN g m flow) with hlt | hge
  · have hneg := pk_sneg (a := cn (g (27 + 11 * m))) (by omega) hlt
    rw [← hx2] at hneg
    rw [show cn (g (27 + 11 * m)) - cn (g (30 + 11 * m)) * exN g m flow = 0 by omega] at h
    refine if_n (fun h3 => ?_) h
    rw [Int32.lt_iff_toInt_lt] at hneg
    rw [Int32.le_iff_toInt_le] at h3
    have : (0 : Int32).toInt = 0 := rfl
    have : (10 : Int32).toInt = 10 := rfl
    omega
  · rw [pk_sub hge] at hx2
    subst hx2
    refine pk_le 10 (cn (g (27 + 11 * m)) - cn (g (30 + 11 * m)) * exN g m flow) (fun h9 => ?_) (fun h9 => ?_)
    · rw [Nat.max_eq_right h9] at h; exact h
    · rw [Nat.max_eq_left (by omega)] at h; exact h
theorem tm_mistakes {p0 p1 : Int32} {m flow : Nat} {post : Int32 → Prop} (hI : IM g) (hm : m < cn (g 0)) (h0 : p0 = nI m) (h1 : p1 = nI flow) (hf : flow < 2 ^ 20) (h : post (nI (miN g m flow))) : wp_X9_mistakes g p0 p1 post := by
  have h6 := (IM_mc hI).2
  obtain ⟨i1, i2, i3, i4, i5⟩ := hI.2 m hm
  obtain ⟨e3, l3, u3⟩ := ok_cn i3 (by omega)
  have hx := ex_le g m flow hf
  refine tm_mAt (m := m) (w := 2) h0 rfl ?_
  rw [show 26 + 11 * m + 2 = 28 + 11 * m by omega]
  refine ⟨v672 (by omega), tm_excess hI hm h0 h1 hf ?_⟩
  intro x hx2
  rw [tn_nI (by omega), e3, nI_add] at hx2
  subst hx2
  unfold miN at h
  refine pk_le (cn (g (28 + 11 * m)) + exN g m flow) 90 (fun h9 => ?_) (fun h9 => ?_)
  · rw [Nat.min_eq_right h9] at h; exact h
  · rw [Nat.min_eq_left (by omega)] at h; exact h
theorem j_rate {p0 p1 : Int32} {p2 : Bool} (hR : Rel b d g) : J2 (wp_X8_rate d p0 p1 p2) (wp_X9_rate g p0 p1 p2) 0 sIO sIA := by
  cases hw : wi p0 0 (g 0 - 1) with
  | false => exact Or.inr (Or.inl ⟨fun post postX h => tc_needM hR (bb_f hw h), fun post h => tm_isM (bb_f hw h)⟩)
  | true =>
    obtain ⟨m, hm, h6, rfl⟩ := wi_M hR hw
    cases hw2 : wi p1 0 9999 with
    | false => exact Or.inr (Or.inr ⟨fun post postX h => tc_needM hR (bb_t hw (tw_wi (bb_f hw2 h))), fun post h => tm_isM (bb_t hw (tw_in (bb_f hw2 h)))⟩)
    | true =>
      obtain ⟨j, hj, rfl⟩ := wi_0 (n := 9999) rfl (by omega) hw2
      refine Or.inl ⟨nI (if p2 then miN g m j else caN g m j), fun post postX h => tc_needM hR (bb_t hw (tw_wi (bb_t hw2 (tc_rate (Inv_M hR.1) (Rel_M hR) hm rfl rfl (by omega) h)))), fun post h => tm_isM (bb_t hw (tw_in (bb_t hw2 ?_)))⟩
      cases p2 with
      | true => exact ⟨fun _ => tm_mistakes (Inv_M hR.1) hm rfl rfl (by omega) h, fun h => Bool.noConfusion h⟩
      | false => exact ⟨fun h => Bool.noConfusion h, fun _ => tm_catches (Inv_M hR.1) hm rfl rfl (by omega) h⟩
end LK
