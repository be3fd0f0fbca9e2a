/-! ===== level 2: who buys a bale, why a sale is refused, a sale ===== -/
def suB (g : XRow) (i c : Nat) : Bool := decide (g (92 + 5 * c) = g (137 + 9 * i)) && (decide (cn (g (93 + 5 * c)) ≤ cn (g (138 + 9 * i))) && decide (s5 (kq g (132 + 9 * i)) ≤ cn (g (94 + 5 * c))))
def btB (g : XRow) (c t : Nat) : Bool := if cn (g (95 + 5 * c)) = cn (g (95 + 5 * t)) then decide (cn (g (93 + 5 * t)) < cn (g (93 + 5 * c))) else decide (cn (g (95 + 5 * t)) < cn (g (95 + 5 * c)))
def bfS (g : XRow) (c : Nat) : Option Nat → Option Nat | none => some c | some t => bif btB g c t then some c else some t
def bfN (g : XRow) (i : Nat) : Nat → Option Nat | 0 => none | c + 1 => bif suB g i c then bfS g c (bfN g i c) else bfN g i c
def oI : Option Nat → Int32 | none => -1 | some c => nI c
theorem bfN_lt {g : XRow} {i : Nat} : ∀ {n c : Nat}, bfN g i n = some c → c < n ∧ suB g i c = true
  | 0, c, h => by cases h
  | n + 1, c, h => by
    have h' : (bif suB g i n then bfS g n (bfN g i n) else bfN g i n) = some c := h
    cases hs : suB g i n with
    | false =>
      rw [hs] at h'
      have := bfN_lt (n := n) h'
      exact ⟨by omega, this.2⟩
    | true =>
      rw [hs] at h'
      replace h' : bfS g n (bfN g i n) = some c := h'
      cases hb : bfN g i n with
      | none =>
        rw [hb] at h'
        obtain rfl : n = c := Option.some.inj h'
        exact ⟨by omega, hs⟩
      | some t =>
        rw [hb] at h'
        have ht := bfN_lt hb
        cases hbt : btB g n t with
        | true =>
          have h2 : (bif btB g n t then some n else some t) = some c := h'
          rw [hbt] at h2
          obtain rfl : n = c := Option.some.inj h2
          exact ⟨by omega, hs⟩
        | false =>
          have h2 : (bif btB g n t then some n else some t) = some c := h'
          rw [hbt] at h2
          obtain rfl : t = c := Option.some.inj h2
          exact ⟨by omega, ht.2⟩
section DE
variable {b : Nat} {d : PD} {g : XRow}
theorem ne_m1 (o : Option Nat) (h : ∀ c, o = some c → c < 2 ^ 31) {A B : Prop} (hn : o = none → A) (hs : ∀ c, o = some c → B) : (oI o = -1 → A) ∧ (¬ oI o = -1 → B) := by
  cases o with
  | none => exact ⟨fun _ => hn rfl, fun h2 => absurd rfl h2⟩
  | some c => exact ⟨fun h2 => absurd h2 (nI_m1 (h c rfl)), fun _ => hs c rfl⟩
theorem lz_0 (o : Option Nat) (h : ∀ c, o = some c → c < 2 ^ 31) {A B : Prop} (hn : o = none → A) (hs : ∀ c, o = some c → B) : (oI o < 0 → A) ∧ (¬ oI o < 0 → B) := by
  cases o with
  | none => exact ⟨fun _ => hn rfl, fun h2 => absurd (by decide) h2⟩
  | some c => exact ⟨fun h2 => absurd h2 (nI_pos (h c rfl)), fun _ => hs c rfl⟩
theorem ge_0 (o : Option Nat) (h : ∀ c, o = some c → c < 2 ^ 31) {A B : Prop} (hn : o = none → B) (hs : ∀ c, o = some c → A) : (0 ≤ oI o → A) ∧ (¬ 0 ≤ oI o → B) := by
  cases o with
  | none => exact ⟨fun h2 => absurd h2 (by decide), fun _ => hn rfl⟩
  | some c => exact ⟨fun _ => hs c rfl, fun h2 => absurd (nI_pos' (h c rfl)) h2⟩
theorem sub_0 {a c : Nat} (ha : a < 2 ^ 30) (hc : c < 2 ^ 30) : nI a - nI c = 0 ↔ a = c := by
  constructor
  · intro h
    have := congrArg Int32.toInt h
    rw [pk_sub_toInt ha hc] at this
    have e : (0 : Int32).toInt = 0 := rfl
    omega
  · intro h; subst h; exact Int32.sub_self _
theorem sub_le0 {a c : Nat} (ha : a < 2 ^ 30) (hc : c < 2 ^ 30) : nI a - nI c ≤ 0 ↔ a ≤ c := by
  rw [Int32.le_iff_toInt_le, pk_sub_toInt ha hc]
  have e : (0 : Int32).toInt = 0 := rfl
  omega
theorem sub_ge0 {a c : Nat} (ha : a < 2 ^ 30) (hc : c < 2 ^ 30) : 0 ≤ nI a - nI c ↔ c ≤ a := by
  rw [Int32.le_iff_toInt_le, pk_sub_toInt ha hc]
  have e : (0 : Int32).toInt = 0 := rfl
  omega
/-- the numbers of a contract -/
theorem con_ok (hC : IC g) {c : Nat} (hc : c < cn (g 3)) : (g (93 + 5 * c) = nI (cn (g (93 + 5 * c))) ∧ cn (g (93 + 5 * c)) ≤ 1000) ∧ (g (94 + 5 * c) = nI (cn (g (94 + 5 * c))) ∧ cn (g (94 + 5 * c)) ≤ 9999) ∧ (g (95 + 5 * c) = nI (cn (g (95 + 5 * c))) ∧ cn (g (95 + 5 * c)) ≤ 99) := by
  obtain ⟨_, i2, i3, i4⟩ := hC.2 c hc
  obtain ⟨a1, _, a2⟩ := ok_cn i2 (by omega)
  obtain ⟨b1, _, b2⟩ := ok_cn i3 (by omega)
  obtain ⟨c1, _, c2⟩ := ok_cn i4 (by omega)
  exact ⟨⟨a1, a2⟩, ⟨b1, b2⟩, c1, c2⟩
theorem smp_ok {i : Nat} (hB : IB1 g i) : g (138 + 9 * i) = nI (cn (g (138 + 9 * i))) ∧ cn (g (138 + 9 * i)) ≤ 1000 := by
  obtain ⟨e, l, u⟩ := ok_cn hB.2.2.2.2.1 (by omega)
  exact ⟨e, u⟩
theorem tc_better {f : XRow} {c t : Nat} {post : Bool → Prop} (hC : IC g) (hR : RC f g) (hc : c < cn (g 3)) (ht : t < cn (g 3)) (h : post (btB g c t)) : wp_X1_isBetter f (nI c) (nI t) post := by
  have h8 := (IC_nc hC).2
  obtain ⟨⟨f1, f2⟩, _, p1, p2⟩ := con_ok hC hc
  obtain ⟨⟨f3, f4⟩, _, p3, p4⟩ := con_ok hC ht
  have g1 : ∀ x, x < cn (g 3) → f (x * 5 + 1) = g (93 + 5 * x) := fun x hx => by rw [hR x hx 1 (by omega)]; congr 1; omega
  have g3 : ∀ x, x < cn (g 3) → f (x * 5 + 3) = g (95 + 5 * x) := fun x hx => by rw [hR x hx 3 (by omega)]; congr 1; omega
  refine tb_get (W := 5) (I := c) (J := 3) rfl rfl rfl (by omega) (by omega) (tb_get (W := 5) (I := t) (J := 3) rfl rfl rfl (by omega) (by omega) ?_)
  rw [g3 c hc, g3 t ht]
  intro x hx
  rw [p1, p3] at hx
  subst hx
  unfold btB at h
  refine ⟨fun h0 => ?_, fun h0 => ?_⟩
  · rw [if_pos ((sub_0 (by omega) (by omega)).mp h0)] at h
    refine tb_get (W := 5) (I := c) (J := 1) rfl rfl rfl (by omega) (by omega) (tb_get (W := 5) (I := t) (J := 1) rfl rfl rfl (by omega) (by omega) ?_)
    rw [g1 c hc, g1 t ht]
    refine pk_le (cn (g (93 + 5 * c))) (cn (g (93 + 5 * t))) (fun h9 => ?_) (fun h9 => ?_) f1 f3
    · rw [decide_eq_false (by omega)] at h; exact h
    · rw [decide_eq_true h9] at h; exact h
  · rw [if_neg (fun h9 => h0 ((sub_0 (by omega) (by omega)).mpr h9))] at h
    refine ⟨fun h1 => ?_, fun h1 => ?_⟩
    · have := (sub_le0 (by omega) (by omega)).mp h1
      rw [decide_eq_false (by omega)] at h; exact h
    · have : ¬ cn (g (95 + 5 * c)) ≤ cn (g (95 + 5 * t)) := fun h9 => h1 ((sub_le0 (by omega) (by omega)).mpr h9)
      rw [decide_eq_true (by omega)] at h; exact h
theorem tm_better {c t : Nat} {post : Bool → Prop} (hC : IC g) (hc : c < cn (g 3)) (ht : t < cn (g 3)) (h : post (btB g c t)) : wp_X9_isBetter g (nI c) (nI t) post := by
  have h8 := (IC_nc hC).2
  obtain ⟨⟨f1, f2⟩, _, p1, p2⟩ := con_ok hC hc
  obtain ⟨⟨f3, f4⟩, _, p3, p4⟩ := con_ok hC ht
  have e3 : ∀ x, 92 + 5 * x + 3 = 95 + 5 * x := fun x => by omega
  have e1 : ∀ x, 92 + 5 * x + 1 = 93 + 5 * x := fun x => by omega
  refine tm_cAt (m := c) (w := 3) rfl rfl ⟨v672 (by omega), tm_cAt (m := t) (w := 3) rfl rfl ⟨v672 (by omega), ?_⟩⟩
  rw [tn_nI (by omega), tn_nI (by omega), e3, e3]
  unfold btB at h
  refine pk_eq (cn (g (95 + 5 * c))) (cn (g (95 + 5 * t))) (fun h0 => ?_) (fun h0 => ?_) p1 p3
  · rw [if_pos h0] at h
    refine tm_cAt (m := c) (w := 1) rfl rfl ⟨v672 (by omega), tm_cAt (m := t) (w := 1) rfl rfl ⟨v672 (by omega), ?_⟩⟩
    rw [tn_nI (by omega), tn_nI (by omega), e1, e1]
    refine pk_le (cn (g (93 + 5 * c))) (cn (g (93 + 5 * t))) (fun h9 => ?_) (fun h9 => ?_) f1 f3
    · rw [decide_eq_false (by omega)] at h; exact h
    · rw [decide_eq_true h9] at h; exact h
  · rw [if_neg h0] at h
    refine tm_cAt (m := c) (w := 3) rfl rfl ⟨v672 (by omega), tm_cAt (m := t) (w := 3) rfl rfl ⟨v672 (by omega), ?_⟩⟩
    rw [tn_nI (by omega), tn_nI (by omega), e3, e3]
    refine pk_le (cn (g (95 + 5 * c))) (cn (g (95 + 5 * t))) (fun h9 => ?_) (fun h9 => ?_) p1 p3
    · rw [decide_eq_false (by omega)] at h; exact h
    · rw [decide_eq_true h9] at h; exact h
def foB (g : XRow) (i c : Nat) : Bool := decide (g (92 + 5 * c) = g (137 + 9 * i))
def reB (g : XRow) (i c : Nat) : Bool := foB g i c && decide (cn (g (93 + 5 * c)) ≤ cn (g (138 + 9 * i)))
theorem suB_eq (g : XRow) (i c : Nat) : suB g i c = (reB g i c && decide (s5 (kq g (132 + 9 * i)) ≤ cn (g (94 + 5 * c)))) := (Bool.and_assoc _ _ _).symm
theorem dec_eq {A : Prop} [Decidable A] {post : Bool → Prop} (h : post (decide A)) : (A → post true) ∧ (¬ A → post false) :=
  ⟨fun h1 => by rw [decide_eq_true h1] at h; exact h, fun h1 => by rw [decide_eq_false h1] at h; exact h⟩
theorem tc_for {f : XRow} {c : Nat} {p1 : Int32} {post : Bool → Prop} (hR : RC f g) (hc : c < cn (g 3)) (h8 : cn (g 3) ≤ 8) (h : post (decide (g (92 + 5 * c) = p1))) : wp_X1_isFor f (nI c) p1 post := by
  refine tb_get (W := 5) (I := c) (J := 0) rfl rfl rfl (by omega) (by omega) ?_
  rw [hR c hc 0 (by omega)]
  exact dec_eq h
theorem tm_for {c i : Nat} {post : Bool → Prop} (hc : c < 8) (hi : i < 60) (h : post (foB g i c)) : wp_X9_isFor g (nI c) (nI i) post := by
  refine tm_cAt (m := c) (w := 0) rfl rfl ⟨v672 (by omega), tm_bAt (m := i) (w := 5) rfl rfl ⟨v672 (by omega), ?_⟩⟩
  rw [tn_nI (by omega), tn_nI (by omega), show 132 + 9 * i + 5 = 137 + 9 * i by omega]
  exact dec_eq h
theorem tm_reach {c i : Nat} {post : Bool → Prop} (hC : IC g) (hB : IB1 g i) (hc : c < cn (g 3)) (hi : i < 60) (h : post (reB g i c)) : wp_X9_reaches g (nI i) (nI c) post := by
  have h8 := (IC_nc hC).2
  obtain ⟨⟨f1, f2⟩, _, _⟩ := con_ok hC hc
  obtain ⟨s1, s2⟩ := smp_ok hB
  refine tm_for (by omega) hi ?_
  unfold reB at h
  cases hf : foB g i c with
  | false => rw [hf] at h; exact bb_f rfl h
  | true =>
    rw [hf] at h
    refine bb_t rfl (tm_bAt (m := i) (w := 6) rfl rfl ⟨v672 (by omega), tm_cAt (m := c) (w := 1) rfl rfl ⟨v672 (by omega), ?_⟩⟩)
    rw [tn_nI (by omega), tn_nI (by omega), show 132 + 9 * i + 6 = 138 + 9 * i by omega, show 92 + 5 * c + 1 = 93 + 5 * c by omega]
    replace h : post (decide (cn (g (93 + 5 * c)) ≤ cn (g (138 + 9 * i)))) := h
    refine pk_lt (cn (g (138 + 9 * i))) (cn (g (93 + 5 * c))) (fun h9 => ?_) (fun h9 => ?_) s1 f1
    · rw [decide_eq_false (by omega)] at h; exact h
    · rw [decide_eq_true h9] at h; exact h
theorem tm_suits {c i : Nat} {post : Bool → Prop} (hC : IC g) (hB : IB1 g i) (hc : c < cn (g 3)) (hi : i < 60) (h : post (suB g i c)) : wp_X9_suits g (nI i) (nI c) post := by
  have h8 := (IC_nc hC).2
  obtain ⟨_, ⟨w1, w2⟩, _⟩ := con_ok hC hc
  rw [suB_eq] at h
  refine tm_reach hC hB hc hi ?_
  cases hf : reB g i c with
  | false => rw [hf] at h; exact bb_f rfl h
  | true =>
    rw [hf] at h
    refine bb_t rfl (tm_cAt (m := c) (w := 2) rfl rfl ⟨v672 (by omega), tm_kilos rfl hB hi ?_⟩)
    rw [tn_nI (by omega), show 92 + 5 * c + 2 = 94 + 5 * c by omega]
    replace h : post (decide (s5 (kq g (132 + 9 * i)) ≤ cn (g (94 + 5 * c)))) := h
    have := hB.2.2.1
    refine pk_lt (cn (g (94 + 5 * c))) (s5 (kq g (132 + 9 * i))) (fun h9 => ?_) (fun h9 => ?_) w1
    · rw [decide_eq_false (by omega)] at h; exact h
    · rw [decide_eq_true h9] at h; exact h
theorem bf_31 {i n : Nat} (hn : n ≤ 8) : ∀ c, bfN g i n = some c → c < 2 ^ 31 := fun c h => by have := (bfN_lt h).1; omega
theorem tm_best {i : Nat} {p0 : Int32} {post : Int32 → Prop} (h0 : p0 = nI i) (hC : IC g) (hB : IB1 g i) (hi : i < 60) (h : post (oI (bfN g i (cn (g 3))))) : wp_X9_bestFor g p0 post := by
  subst h0
  obtain ⟨e3, h8⟩ := IC_nc hC
  refine loop_0 (fun n k s => wp_X9_bestFor_L4 g (nI i) (fun (_ : Int32) (v10 : Int32) => post v10) n (nI k) s) (fun k s => s = oI (bfN g i k)) (cn (g 3)) (-1) rfl ?_ ?_
  · intro n s hs
    subst hs
    refine ⟨v672 (n := 3) (by omega), if_y ?_ h⟩
    show g 3 ≤ _
    conv => lhs; rw [e3]
    exact nI_le (Nat.le_refl _) (by omega)
  · intro n c s hc hs hk
    subst hs
    have e1 : nI c + 1 = nI (c + 1) := nI_1 c
    refine ⟨v672 (n := 3) (by omega), if_n ?_ (tm_suits hC hB hc hi ?_)⟩
    · show ¬ g 3 ≤ _
      conv => arg 1; lhs; rw [e3]
      exact nI_ge hc (by omega)
    · have es : bfN g i (c + 1) = bif suB g i c then bfS g c (bfN g i c) else bfN g i c := rfl
      cases hs : suB g i c with
      | false =>
        rw [hs] at es
        refine bb_f rfl (fun x hx => ?_)
        rw [hx, e1]; exact hk _ (by rw [es]; rfl)
      | true =>
        rw [hs] at es
        refine bb_t rfl (lz_0 _ (bf_31 (by omega)) (fun hn x hx => ?_) (fun t ht => ?_))
        · rw [hx, e1]; exact hk _ (by rw [es, hn]; rfl)
        · rw [ht]
          have htl := (bfN_lt ht).1
          refine tm_better hC hc (by omega) ?_
          rw [ht] at es
          cases hb : btB g c t with
          | true =>
            refine bb_t rfl (fun x hx => ?_)
            rw [hx, e1]
            refine hk _ ?_
            rw [es]
            show nI c = oI (bif btB g c t then some c else some t)
            rw [hb]; rfl
          | false =>
            refine bb_f rfl (fun x hx => ?_)
            rw [hx, e1]
            refine hk _ ?_
            rw [es]
            show nI t = oI (bif btB g c t then some c else some t)
            rw [hb]; rfl
theorem tc_best {i : Nat} {f : XRow} {cc p0 p1 p2 : Int32} {post : Int32 → Prop} (hC : IC g) (hR : RC f g) (hB : IB1 g i) (hcc : cc = g 3) (h0 : p0 = g (137 + 9 * i)) (h1 : p1 = g (138 + 9 * i)) (h2 : p2 = nI (s5 (kq g (132 + 9 * i)))) (h : post (oI (bfN g i (cn (g 3))))) : wp_X1_bestFor f cc p0 p1 p2 post := by
  subst h0 h1 h2 hcc
  obtain ⟨e3, h8⟩ := IC_nc hC
  have hk200 := hB.2.2.1
  obtain ⟨s1, s2⟩ := smp_ok hB
  refine loop_0 (fun n k s => wp_X1_bestFor_L6 f (g 3) (g (137 + 9 * i)) (g (138 + 9 * i)) (nI (s5 (kq g (132 + 9 * i)))) (fun (_ : Int32) (v14 : Int32) => post v14) n (nI k) s) (fun k s => s = oI (bfN g i k)) (cn (g 3)) (-1) rfl ?_ ?_
  · intro n s hs
    subst hs
    refine if_y ?_ h
    conv => lhs; rw [e3]
    exact nI_le (Nat.le_refl _) (by omega)
  · intro n c s hc hs hk
    subst hs
    have e1 : nI c + 1 = nI (c + 1) := nI_1 c
    obtain ⟨⟨f1, f2⟩, ⟨w1, w2⟩, _⟩ := con_ok hC hc
    refine if_n ?_ (tc_for hR hc h8 ?_)
    · conv => arg 1; lhs; rw [e3]
      exact nI_ge hc (by omega)
    · have es : bfN g i (c + 1) = bif suB g i c then bfS g c (bfN g i c) else bfN g i c := rfl
      have no : suB g i c = false → ∀ x, x = nI c + 1 → wp_X1_bestFor_L6 f (g 3) (g (137 + 9 * i)) (g (138 + 9 * i)) (nI (s5 (kq g (132 + 9 * i)))) (fun (_ : Int32) (v14 : Int32) => post v14) n x (oI (bfN g i c)) := fun hs x hx => by
        rw [hs] at es
        rw [hx, e1]; exact hk _ (by rw [es]; rfl)
      by_cases hf : g (92 + 5 * c) = g (137 + 9 * i)
      · rw [decide_eq_true hf]
        refine bb_t rfl (tb_get (W := 5) (I := c) (J := 1) rfl rfl rfl (by omega) (by omega) ?_)
        rw [hR c hc 1 (by omega), show 92 + 5 * c + 1 = 93 + 5 * c by omega]
        refine pk_lt (cn (g (138 + 9 * i))) (cn (g (93 + 5 * c))) (fun h9 => no ?_) (fun h9 => tb_get (W := 5) (I := c) (J := 2) rfl rfl rfl (by omega) (by omega) ?_) s1 f1
        · unfold suB; rw [decide_eq_true hf, decide_eq_false (by omega : ¬ cn (g (93 + 5 * c)) ≤ cn (g (138 + 9 * i)))]; rfl
        · rw [hR c hc 2 (by omega), show 92 + 5 * c + 2 = 94 + 5 * c by omega]
          refine pk_lt (cn (g (94 + 5 * c))) (s5 (kq g (132 + 9 * i))) (fun h10 => no ?_) (fun h10 => ?_) w1
          · unfold suB; rw [decide_eq_true hf, decide_eq_true h9, decide_eq_false (by omega : ¬ s5 (kq g (132 + 9 * i)) ≤ cn (g (94 + 5 * c)))]; rfl
          · have hs : suB g i c = true := by unfold suB; rw [decide_eq_true hf, decide_eq_true h9, decide_eq_true h10]; rfl
            rw [hs] at es
            refine ne_m1 _ (bf_31 (by omega)) (fun hn x hx => ?_) (fun t ht => ?_)
            · rw [hx, e1]; exact hk _ (by rw [es, hn]; rfl)
            · rw [ht]
              have htl := (bfN_lt ht).1
              refine tc_better hC hR hc (by omega) ?_
              rw [ht] at es
              cases hb : btB g c t with
              | true =>
                refine bb_t rfl (fun x hx => ?_)
                rw [hx, e1]
                refine hk _ ?_
                rw [es]
                show nI c = oI (bif btB g c t then some c else some t)
                rw [hb]; rfl
              | false =>
                refine bb_f rfl (fun x hx => ?_)
                rw [hx, e1]
                refine hk _ ?_
                rw [es]
                show nI t = oI (bif btB g c t then some c else some t)
                rw [hb]; rfl
      · rw [decide_eq_false hf]
        refine bb_f rfl (no ?_)
        unfold suB; rw [decide_eq_false hf]; rfl
/-- the buyer, of the class -/
theorem tc_buyer {i : Nat} {p0 : Int32} {post : Int32 → Prop} (hR : Rel b d g) (h0 : p0 = nI i) (hi : i < cn (g 2)) (h : post (if g (139 + 9 * i) = 0 then oI (bfN g i (cn (g 3))) else -1)) : wp_X4_buyerOf d.2.2.2.1 d.2.2.2.2.2.2.1 d.2.2.2.2.2.2.2.1 p0 post := by
  subst h0
  have h60 := (IB_nb (Inv_B hR.1)).2
  have hB := (Inv_B hR.1).2 i hi
  obtain ⟨n1, n2, n3, n4, n5, n6, n7, n8⟩ := Rel_N hR i hi
  unfold wp_X4_buyerOf wp_X0_isInStock
  refine tb_get (W := 12) (I := i) (J := 10) rfl rfl rfl (by omega) (by omega) ?_
  rw [n7]
  refine ⟨fun hs => bb_t rfl ?_, fun hs => bb_f rfl ?_⟩
  · rw [if_pos hs] at h
    refine tb_get (W := 12) (I := i) (J := 8) rfl rfl rfl (by omega) (by omega) (tb_get (W := 12) (I := i) (J := 5) rfl rfl rfl (by omega) (by omega) (tb_get (W := 12) (I := i) (J := 6) rfl rfl rfl (by omega) (by omega) ?_))
    exact tc_best (Inv_C hR.1) (Rel_C hR) hB (Rel_cc hR) n2 n5 n3 h
  · rw [if_neg hs] at h; exact h
/-! why a sale is refused -/
def lfS (x : Nat) : Option Nat → Option Nat | none => some x | some l => some (min l x)
def lfN (g : XRow) (i : Nat) : Nat → Option Nat | 0 => none | c + 1 => bif foB g i c then lfS (cn (g (93 + 5 * c))) (lfN g i c) else lfN g i c
def mwS (x : Nat) : Option Nat → Option Nat | none => some x | some l => some (max l x)
def mwN (g : XRow) (i : Nat) : Nat → Option Nat | 0 => none | c + 1 => bif reB g i c then mwS (cn (g (94 + 5 * c))) (mwN g i c) else mwN g i c
theorem lfN_le (hC : IC g) {i : Nat} : ∀ {n l : Nat}, n ≤ cn (g 3) → lfN g i n = some l → l ≤ 1000
  | 0, l, _, h => by cases h
  | n + 1, l, hn, h => by
    have hc := (con_ok hC (show n < cn (g 3) by omega)).1.2
    have h' : (bif foB g i n then lfS (cn (g (93 + 5 * n))) (lfN g i n) else lfN g i n) = some l := h
    cases hf : foB g i n with
    | false => rw [hf] at h'; exact lfN_le hC (by omega) h'
    | true =>
      rw [hf] at h'
      replace h' : lfS (cn (g (93 + 5 * n))) (lfN g i n) = some l := h'
      cases hl : lfN g i n with
      | none => rw [hl] at h'; have := Option.some.inj h'; omega
      | some l2 => rw [hl] at h'; have := Option.some.inj h'; omega
theorem mwN_le (hC : IC g) {i : Nat} : ∀ {n l : Nat}, n ≤ cn (g 3) → mwN g i n = some l → l ≤ 9999
  | 0, l, _, h => by cases h
  | n + 1, l, hn, h => by
    have hc := (con_ok hC (show n < cn (g 3) by omega)).2.1.2
    have h' : (bif reB g i n then mwS (cn (g (94 + 5 * n))) (mwN g i n) else mwN g i n) = some l := h
    cases hf : reB g i n with
    | false => rw [hf] at h'; exact mwN_le hC (by omega) h'
    | true =>
      rw [hf] at h'
      replace h' : mwS (cn (g (94 + 5 * n))) (mwN g i n) = some l := h'
      cases hl : mwN g i n with
      | none => rw [hl] at h'; have := Option.some.inj h'; omega
      | some l2 =>
        have := mwN_le hC (by omega) hl
        rw [hl] at h'
        have := Option.some.inj h'
        omega
/-- some contract is reached just where the least floor is -/
theorem mw_lf {i : Nat} : ∀ n, (mwN g i n = none ↔ ∀ l, lfN g i n = some l → cn (g (138 + 9 * i)) < l)
  | 0 => ⟨fun _ l h => (by cases h), fun _ => rfl⟩
  | n + 1 => by
    have ih := mw_lf (i := i) n
    have e1 : mwN g i (n + 1) = bif reB g i n then mwS (cn (g (94 + 5 * n))) (mwN g i n) else mwN g i n := rfl
    have e2 : lfN g i (n + 1) = bif foB g i n then lfS (cn (g (93 + 5 * n))) (lfN g i n) else lfN g i n := rfl
    rw [e1, e2]
    cases hf : foB g i n with
    | false =>
      have hr : reB g i n = false := by unfold reB; rw [hf]; rfl
      rw [hr]; exact ih
    | true =>
      by_cases hle : cn (g (93 + 5 * n)) ≤ cn (g (138 + 9 * i))
      · have hr : reB g i n = true := by unfold reB; rw [hf, decide_eq_true hle]; rfl
        rw [hr]
        show mwS _ _ = none ↔ ∀ l, lfS _ _ = some l → _
        constructor
        · intro h; cases hm : mwN g i n <;> rw [hm] at h <;> cases h
        · intro h
          exfalso
          cases hl : lfN g i n with
          | none => have := h _ (by rw [hl]; rfl); omega
          | some l => have := h _ (by rw [hl]; rfl); omega
      · have hr : reB g i n = false := by unfold reB; rw [hf, decide_eq_false hle]; rfl
        rw [hr]
        show mwN g i n = none ↔ ∀ l, lfS _ _ = some l → _
        rw [ih]
        cases hl : lfN g i n with
        | none =>
          constructor
          · intro _ l h; have := Option.some.inj h; omega
          · intro _ l h; cases h
        | some l0 =>
          constructor
          · intro h l h2
            have h3 := h l0 rfl
            have := Option.some.inj h2
            omega
          · intro h l h2
            have h3 := h (min l0 (cn (g (93 + 5 * n)))) rfl
            have := Option.some.inj h2
            omega
theorem tc_least {i : Nat} {f : XRow} {cc p0 : Int32} {post : Int32 → Prop} (hC : IC g) (hR : RC f g) (hcc : cc = g 3) (h0 : p0 = g (137 + 9 * i)) (h : post (oI (lfN g i (cn (g 3))))) : wp_X1_leastFloor f cc p0 post := by
  subst h0 hcc
  obtain ⟨e3, h8⟩ := IC_nc hC
  refine loop_0 (fun n k s => wp_X1_leastFloor_L4 f (g 3) (g (137 + 9 * i)) (fun (_ : Int32) (v10 : Int32) => post v10) n (nI k) s) (fun k s => s = oI (lfN g i k)) (cn (g 3)) (-1) rfl ?_ ?_
  · intro n s hs
    subst hs
    refine if_y ?_ h
    conv => lhs; rw [e3]
    exact nI_le (Nat.le_refl _) (by omega)
  · intro n c s hc hs hk
    subst hs
    have e1 : nI c + 1 = nI (c + 1) := nI_1 c
    obtain ⟨⟨f1, f2⟩, _, _⟩ := con_ok hC hc
    have es : lfN g i (c + 1) = bif foB g i c then lfS (cn (g (93 + 5 * c))) (lfN g i c) else lfN g i c := rfl
    refine if_n ?_ (tb_get (W := 5) (I := c) (J := 1) rfl rfl rfl (by omega) (by omega) (tc_for hR hc h8 ?_))
    · conv => arg 1; lhs; rw [e3]
      exact nI_ge hc (by omega)
    · rw [hR c hc 1 (by omega), show 92 + 5 * c + 1 = 93 + 5 * c by omega]
      show (foB g i c = true → _) ∧ (foB g i c = false → _)
      cases hf : foB g i c with
      | false =>
        rw [hf] at es
        refine bb_f rfl (fun x hx => ?_)
        rw [hx, e1]; exact hk _ (by rw [es]; rfl)
      | true =>
        rw [hf] at es
        refine bb_t rfl (ne_m1 _ (fun l hl => by have := lfN_le hC (by omega) hl; omega) (fun hn x hx => ?_) (fun l hl => ?_))
        · rw [hx, e1]; refine hk _ ?_; rw [es, hn]; exact f1
        · rw [hl]
          have hl2 := lfN_le hC (by omega) hl
          refine pk_le l (cn (g (93 + 5 * c))) (fun h9 x hx => ?_) (fun h9 x hx => ?_) rfl f1
          · rw [hx, e1]; refine hk _ ?_; rw [es, hl]
            show nI l = nI (min l _)
            rw [Nat.min_eq_left h9]
          · rw [hx, e1]; refine hk _ ?_; rw [es, hl]
            show _ = nI (min l _)
            rw [Nat.min_eq_right (by omega)]; exact f1
theorem tc_most {i : Nat} {f : XRow} {cc p0 p1 : Int32} {post : Int32 → Prop} (hC : IC g) (hR : RC f g) (hB : IB1 g i) (hcc : cc = g 3) (h0 : p0 = g (137 + 9 * i)) (h1 : p1 = g (138 + 9 * i)) (h : post (nI ((mwN g i (cn (g 3))).getD 0))) : wp_X1_mostWanted f cc p0 p1 post := by
  subst h0 h1 hcc
  obtain ⟨e3, h8⟩ := IC_nc hC
  obtain ⟨s1, s2⟩ := smp_ok hB
  refine loop_0 (fun n k s => wp_X1_mostWanted_L5 f (g 3) (g (137 + 9 * i)) (g (138 + 9 * i)) (fun (_ : Int32) (v11 : Int32) => post v11) n (nI k) s) (fun k s => s = nI ((mwN g i k).getD 0)) (cn (g 3)) 0 rfl ?_ ?_
  · intro n s hs
    subst hs
    refine if_y ?_ h
    conv => lhs; rw [e3]
    exact nI_le (Nat.le_refl _) (by omega)
  · intro n c s hc hs hk
    subst hs
    have e1 : nI c + 1 = nI (c + 1) := nI_1 c
    obtain ⟨⟨f1, f2⟩, ⟨w1, w2⟩, _⟩ := con_ok hC hc
    have es : mwN g i (c + 1) = bif reB g i c then mwS (cn (g (94 + 5 * c))) (mwN g i c) else mwN g i c := rfl
    refine if_n ?_ (tc_for hR hc h8 ?_)
    · conv => arg 1; lhs; rw [e3]
      exact nI_ge hc (by omega)
    · show (foB g i c = true → _) ∧ (foB g i c = false → _)
      cases hf : foB g i c with
      | false =>
        have hr : reB g i c = false := by unfold reB; rw [hf]; rfl
        rw [hr] at es
        refine bb_f rfl (fun x hx => ?_)
        rw [hx, e1]; exact hk _ (by rw [es]; rfl)
      | true =>
        refine bb_t rfl (tb_get (W := 5) (I := c) (J := 1) rfl rfl rfl (by omega) (by omega) ?_)
        rw [hR c hc 1 (by omega), show 92 + 5 * c + 1 = 93 + 5 * c by omega]
        refine pk_lt (cn (g (138 + 9 * i))) (cn (g (93 + 5 * c))) (fun h9 x hx => ?_) (fun h9 => tb_get (W := 5) (I := c) (J := 2) rfl rfl rfl (by omega) (by omega) ?_) s1 f1
        · have hr : reB g i c = false := by unfold reB; rw [hf, decide_eq_false (by omega : ¬ cn (g (93 + 5 * c)) ≤ cn (g (138 + 9 * i)))]; rfl
          rw [hr] at es
          rw [hx, e1]; exact hk _ (by rw [es]; rfl)
        · have hr : reB g i c = true := by unfold reB; rw [hf, decide_eq_true h9]; rfl
          rw [hr] at es
          rw [hR c hc 2 (by omega), show 92 + 5 * c + 2 = 94 + 5 * c by omega]
          intro x hx y hy
          rw [hy, e1]
          refine hk _ ?_
          rw [hx, es]
          conv => lhs; rw [w1]
          cases hm : mwN g i c with
          | none =>
            show xMax (nI 0) _ = nI (cn (g (94 + 5 * c)))
            rw [xMax_nI (by omega) (by omega), Nat.max_eq_right (by omega)]
          | some l =>
            have := mwN_le hC (show c ≤ cn (g 3) by omega) hm
            show xMax (nI l) _ = nI (max l _)
            exact xMax_nI (by omega) (by omega)
/-- reason and detail -/
def agR (g : XRow) (i : Nat) : Nat := if g (139 + 9 * i) = 0 then (match lfN g i (cn (g 3)) with | none => 2 | some _ => match mwN g i (cn (g 3)) with | none => 3 | some _ => match bfN g i (cn (g 3)) with | none => 4 | some _ => 0) else 1
def agD (g : XRow) (i : Nat) (md : Int32) : Int32 := match agR g i with | 0 => md | 1 => g (139 + 9 * i) | 2 => g (137 + 9 * i) | 3 => oI (lfN g i (cn (g 3))) | _ => nI ((mwN g i (cn (g 3))).getD 0)
def lfD : Option Nat → Nat | none => 1001 | some l => l
theorem ag_loop {i : Nat} (hC : IC g) (hB : IB1 g i) (hi : i < 60) (kk : Int32 → Int32 → Int32 → Int32 → Prop) (hkk : ∀ q : Nat, q ≤ 8 → (q = 0 ↔ lfN g i (cn (g 3)) = none) → kk (nI (cn (g 3))) (oI (mwN g i (cn (g 3)))) (nI (lfD (lfN g i (cn (g 3))))) (nI q)) : ∃ fl, wp_X9_against_L43 g (nI i) kk fl 0 (-1) 1001 0 := by
  obtain ⟨e3, h8⟩ := IC_nc hC
  obtain ⟨s1, s2⟩ := smp_ok hB
  refine loop_0 (fun n (k : Nat) (s : Int32 × Int32 × Int32) => wp_X9_against_L43 g (nI i) kk n (nI k) s.1 s.2.1 s.2.2) (fun k s => s.1 = oI (mwN g i k) ∧ s.2.1 = nI (lfD (lfN g i k)) ∧ ∃ q, q ≤ k ∧ s.2.2 = nI q ∧ (q = 0 ↔ lfN g i k = none)) (cn (g 3)) (-1, 1001, 0) ⟨rfl, rfl, 0, by omega, rfl, fun _ => rfl, fun _ => rfl⟩ ?_ ?_
  · intro n s hs
    obtain ⟨t1, t2, q, q1, q2, q3⟩ := hs
    refine ⟨v672 (n := 3) (by omega), if_y ?_ ?_⟩
    · show g 3 ≤ _
      conv => lhs; rw [e3]
      exact nI_le (Nat.le_refl _) (by omega)
    · rw [t1, t2, q2]
      exact hkk q (by omega) q3
  · intro n c s hc hs hk
    obtain ⟨v3, v4, vm⟩ := s
    obtain ⟨t1, t2, q, q1, q2, q3⟩ := hs
    dsimp only at t1 t2 q2
    subst t1 t2 q2
    have e1 : nI c + 1 = nI (c + 1) := nI_1 c
    obtain ⟨⟨f1, f2⟩, ⟨w1, w2⟩, _⟩ := con_ok hC hc
    have esl : lfN g i (c + 1) = bif foB g i c then lfS (cn (g (93 + 5 * c))) (lfN g i c) else lfN g i c := rfl
    have esm : mwN g i (c + 1) = bif reB g i c then mwS (cn (g (94 + 5 * c))) (mwN g i c) else mwN g i c := rfl
    refine ⟨v672 (n := 3) (by omega), if_n ?_ (tm_for (by omega) hi ?_)⟩
    · show ¬ g 3 ≤ _
      conv => arg 1; lhs; rw [e3]
      exact nI_ge hc (by omega)
    · cases hf : foB g i c with
      | false =>
        have hr : reB g i c = false := by unfold reB; rw [hf]; rfl
        rw [hf] at esl
        rw [hr] at esm
        refine bb_f rfl (fun x hx => ?_)
        rw [hx, e1]
        exact hk (oI (mwN g i c), nI (lfD (lfN g i c)), nI q) ⟨by rw [esm]; rfl, by rw [esl]; rfl, q, by omega, rfl, by rw [esl]; exact q3⟩
      | true =>
        rw [hf] at esl
        replace esl : lfN g i (c + 1) = lfS (cn (g (93 + 5 * c))) (lfN g i c) := esl
        have lf1 : lfD (lfN g i c) ≤ 1001 := by
          cases hl : lfN g i c with
          | none => exact Nat.le_refl _
          | some l => have := lfN_le hC (show c ≤ cn (g 3) by omega) hl; show l ≤ 1001; omega
        have lf2 : lfD (lfN g i (c + 1)) = min (lfD (lfN g i c)) (cn (g (93 + 5 * c))) := by
          rw [esl]
          cases hl : lfN g i c with
          | none => show cn (g (93 + 5 * c)) = min 1001 _; omega
          | some l => rfl
        have lf3 : ∀ r : Nat, (q + 1 = 0 ↔ lfN g i (c + 1) = none) := fun _ => by
          rw [esl]
          cases hl : lfN g i c with
          | none => exact ⟨fun h => by omega, fun h => by cases h⟩
          | some l => exact ⟨fun h => by omega, fun h => by cases h⟩
        have mw1 : ∀ l, mwN g i c = some l → l ≤ 9999 := fun l hl => mwN_le hC (show c ≤ cn (g 3) by omega) hl
        -- the step behind the least floor
        have tail : ∀ v4' vm' : Int32, v4' = nI (lfD (lfN g i (c + 1))) → vm' = nI (q + 1) → wp_X9_reaches g (nI i) (nI c) (fun u10 : Bool => (u10 = true → (wp_X9_contractAt (nI c) 2 (fun u12 : Int32 => vp_in u12 672 ∧ (((g (u12).toNatClampNeg) ≤ oI (mwN g i c) → (∀ x13 : Int32, x13 = nI c + 1 → (wp_X9_against_L43 g (nI i) kk n x13 (oI (mwN g i c)) v4' vm'))) ∧ (¬ (g (u12).toNatClampNeg) ≤ oI (mwN g i c) → (wp_X9_contractAt (nI c) 2 (fun u14 : Int32 => vp_in u14 672 ∧ (∀ x15 : Int32, x15 = g (u14).toNatClampNeg → (∀ x16 : Int32, x16 = nI c + 1 → (wp_X9_against_L43 g (nI i) kk n x16 x15 v4' vm')))))))))) ∧ (u10 = false → (∀ x11 : Int32, x11 = nI c + 1 → (wp_X9_against_L43 g (nI i) kk n x11 (oI (mwN g i c)) v4' vm')))) := by
          intro v4' vm' hv4 hvm
          subst hv4 hvm
          refine tm_reach hC hB hc hi ?_
          cases hr : reB g i c with
          | false =>
            rw [hr] at esm
            refine bb_f rfl (fun x hx => ?_)
            rw [hx, e1]
            exact hk (oI (mwN g i c), nI (lfD (lfN g i (c + 1))), nI (q + 1)) ⟨by rw [esm]; rfl, rfl, q + 1, by omega, rfl, lf3 0⟩
          | true =>
            rw [hr] at esm
            refine bb_t rfl (tm_cAt (m := c) (w := 2) rfl rfl ⟨v672 (by omega), ?_⟩)
            rw [tn_nI (by omega), show 92 + 5 * c + 2 = 94 + 5 * c by omega]
            cases hm : mwN g i c with
            | none =>
              rw [hm] at esm
              refine if_n ?_ (tm_cAt (m := c) (w := 2) rfl rfl ⟨v672 (by omega), fun x hx y hy => ?_⟩)
              · rw [w1, Int32.le_iff_toInt_le, nI_toInt (by omega)]
                have : (oI none).toInt = -1 := rfl
                omega
              · rw [tn_nI (by omega), show 92 + 5 * c + 2 = 94 + 5 * c by omega, w1] at hx
                rw [hy, e1, hx]
                exact hk (nI (cn (g (94 + 5 * c))), nI (lfD (lfN g i (c + 1))), nI (q + 1)) ⟨by rw [esm]; rfl, rfl, q + 1, by omega, rfl, lf3 0⟩
            | some l =>
              rw [hm] at esm
              have hl9 := mw1 l hm
              refine pk_le (cn (g (94 + 5 * c))) l (fun h9 x hx => ?_) (fun h9 => tm_cAt (m := c) (w := 2) rfl rfl ⟨v672 (by omega), fun x hx y hy => ?_⟩) w1 rfl
              · rw [hx, e1]
                exact hk (nI l, nI (lfD (lfN g i (c + 1))), nI (q + 1)) ⟨by rw [esm]; show nI l = nI (max l _); rw [Nat.max_eq_left h9], rfl, q + 1, by omega, rfl, lf3 0⟩
              · rw [tn_nI (by omega), show 92 + 5 * c + 2 = 94 + 5 * c by omega, w1] at hx
                rw [hy, e1, hx]
                exact hk (nI (cn (g (94 + 5 * c))), nI (lfD (lfN g i (c + 1))), nI (q + 1)) ⟨by rw [esm]; show _ = nI (max l _); rw [Nat.max_eq_right (by omega)], rfl, q + 1, by omega, rfl, lf3 0⟩
        refine bb_t rfl (fun x8 hx8 => tm_cAt (m := c) (w := 1) rfl rfl ⟨v672 (by omega), ?_⟩)
        have ex8 : x8 = nI (q + 1) := by rw [hx8]; exact nI_1 q
        rw [tn_nI (by omega), show 92 + 5 * c + 1 = 93 + 5 * c by omega]
        refine pk_le (lfD (lfN g i c)) (cn (g (93 + 5 * c))) (fun h9 => ?_) (fun h9 => tm_cAt (m := c) (w := 1) rfl rfl ⟨v672 (by omega), fun x18 hx18 => ?_⟩) rfl f1
        · exact tail (nI (lfD (lfN g i c))) x8 (by rw [lf2, Nat.min_eq_left h9]) ex8
        · rw [tn_nI (by omega), show 92 + 5 * c + 1 = 93 + 5 * c by omega] at hx18
          exact tail x18 x8 (by rw [lf2, Nat.min_eq_right (by omega), hx18]; exact f1) ex8
theorem tm_against {i : Nat} {md p0 : Int32} {post : Int32 × Int32 → Prop} (h0 : p0 = nI i) (hC : IC g) (hB : IB1 g i) (hi : i < 60) (h : post (nI (agR g i), agD g i md)) : wp_X9_against g md p0 post := by
  subst h0
  obtain ⟨e3, h8⟩ := IC_nc hC
  obtain ⟨s1, s2⟩ := smp_ok hB
  refine tm_bAt (m := i) (w := 7) rfl rfl ⟨v672 (by omega), ?_⟩
  rw [tn_nI (by omega), show 132 + 9 * i + 7 = 139 + 9 * i by omega]
  refine ⟨fun hst => ?_, fun hst => tm_bAt (m := i) (w := 7) rfl rfl ⟨v672 (by omega), ?_⟩⟩
  · refine ag_loop hC hB hi _ (fun q q1 q3 => ?_)
    refine pk_eq q 0 (fun hq => tm_bAt (m := i) (w := 5) rfl rfl ⟨v672 (by omega), ?_⟩) (fun hq => ?_)
    · have hl := q3.mp hq
      have er : agR g i = 2 := by unfold agR; rw [if_pos hst, hl]
      rw [tn_nI (by omega), show 132 + 9 * i + 5 = 137 + 9 * i by omega]
      have ed : agD g i md = g (137 + 9 * i) := by unfold agD; rw [er]; rfl
      rw [er, ed] at h
      exact h
    · obtain ⟨l, hl⟩ : ∃ l, lfN g i (cn (g 3)) = some l := by
        cases hl : lfN g i (cn (g 3)) with
        | none => exact absurd (q3.mpr hl) hq
        | some l => exact ⟨l, rfl⟩
      refine ge_0 _ (fun l hl => by have := mwN_le hC (Nat.le_refl _) hl; omega) (fun hm => ?_) (fun w hm => tm_best rfl hC hB hi (ge_0 _ (bf_31 h8) (fun hb => ?_) (fun c hb => ?_)))
      · have er : agR g i = 3 := by unfold agR; rw [if_pos hst, hl, hm]
        have ed : agD g i md = nI l := by unfold agD; rw [er, hl]; rfl
        rw [er, ed] at h
        rw [hl]
        exact h
      · have er : agR g i = 4 := by unfold agR; rw [if_pos hst, hl, hm, hb]
        have ed : agD g i md = nI w := by unfold agD; rw [er, hm]; rfl
        rw [er, ed] at h
        rw [hm]
        exact h
      · have er : agR g i = 0 := by unfold agR; rw [if_pos hst, hl, hm, hb]
        have ed : agD g i md = md := by unfold agD; rw [er]; rfl
        rw [er, ed] at h
        exact h
  · rw [tn_nI (by omega), show 132 + 9 * i + 7 = 139 + 9 * i by omega]
    have er : agR g i = 1 := by unfold agR; rw [if_neg hst]
    have ed : agD g i md = g (139 + 9 * i) := by unfold agD; rw [er]; rfl
    rw [er, ed] at h
    exact h
theorem agR_le (g : XRow) (i : Nat) : agR g i ≤ 4 := by
  unfold agR
  split
  · split
    · omega
    · split
      · omega
      · split <;> omega
  · omega
/-- .. of the class -/
theorem tc_refusal {i : Nat} {p0 : Int32} {post : Int32 → Prop} (hR : Rel b d g) (h0 : p0 = nI i) (hi : i < cn (g 2)) (h : post (nI (agR g i))) : wp_X4_refusalOf d.2.2.2.1 d.2.2.2.2.2.2.1 d.2.2.2.2.2.2.2.1 p0 post := by
  subst h0
  have h60 := (IB_nb (Inv_B hR.1)).2
  have hC := Inv_C hR.1
  have h8 := (IC_nc hC).2
  have hB := (Inv_B hR.1).2 i hi
  obtain ⟨s1, s2⟩ := smp_ok hB
  obtain ⟨n1, n2, n3, n4, n5, n6, n7, n8⟩ := Rel_N hR i hi
  refine tb_get (W := 12) (I := i) (J := 5) rfl rfl rfl (by omega) (by omega) (tc_least (i := i) hC (Rel_C hR) (Rel_cc hR) n2 (tb_get (W := 12) (I := i) (J := 10) rfl rfl rfl (by omega) (by omega) ?_))
  rw [n7]
  have hml := mw_lf (g := g) (i := i) (cn (g 3))
  refine ⟨fun hst => bb_t rfl (ne_m1 _ (fun l hl => by have := lfN_le hC (Nat.le_refl _) hl; omega) (fun hl => ?_) (fun l hl => tb_get (W := 12) (I := i) (J := 8) rfl rfl rfl (by omega) (by omega) ?_)), fun hst => bb_f rfl ?_⟩
  · have er : agR g i = 2 := by unfold agR; rw [if_pos hst, hl]
    rw [er] at h; exact h
  · have hl1 := lfN_le hC (Nat.le_refl _) hl
    rw [n5, hl]
    refine pk_le l (cn (g (138 + 9 * i))) (fun h9 => tc_buyer hR rfl hi ?_) (fun h9 => ?_) rfl s1
    · rw [if_pos hst]
      obtain ⟨w, hm⟩ : ∃ w, mwN g i (cn (g 3)) = some w := by
        cases hm : mwN g i (cn (g 3)) with
        | none => have := hml.mp hm l hl; omega
        | some w => exact ⟨w, rfl⟩
      refine ne_m1 _ (bf_31 h8) (fun hb => ?_) (fun c hb => ?_)
      · have er : agR g i = 4 := by unfold agR; rw [if_pos hst, hl, hm, hb]
        rw [er] at h; exact h
      · have er : agR g i = 0 := by unfold agR; rw [if_pos hst, hl, hm, hb]
        rw [er] at h; exact h
    · have hm : mwN g i (cn (g 3)) = none := hml.mpr (fun l2 hl2 => by rw [hl] at hl2; have := Option.some.inj hl2; omega)
      have er : agR g i = 3 := by unfold agR; rw [if_pos hst, hl, hm]
      rw [er] at h; exact h
  · have er : agR g i = 1 := by unfold agR; rw [if_neg hst]
    rw [er] at h; exact h
theorem tc_detail {i : Nat} {p0 p1 md : Int32} {post : Int32 → Prop} (hR : Rel b d g) (h0 : p0 = nI i) (hi : i < cn (g 2)) (h1 : p1 = nI (agR g i)) (hne : agR g i ≠ 0) (h : post (agD g i md)) : wp_X4_detailOf d.2.2.2.1 d.2.2.2.2.2.2.1 d.2.2.2.2.2.2.2.1 p0 p1 post := by
  subst h0 h1
  have h60 := (IB_nb (Inv_B hR.1)).2
  have hC := Inv_C hR.1
  have hB := (Inv_B hR.1).2 i hi
  obtain ⟨n1, n2, n3, n4, n5, n6, n7, n8⟩ := Rel_N hR i hi
  have h4 := agR_le g i
  refine tb_get (W := 12) (I := i) (J := 5) rfl rfl rfl (by omega) (by omega) ?_
  unfold agD at h
  refine ⟨fun hr => ?_, fun hr => ?_, fun hr => ?_, fun hr => ?_⟩
  · rw [nI_toInt (by omega)] at hr
    have e4 : agR g i = 4 := by omega
    rw [e4] at h
    refine tb_get (W := 12) (I := i) (J := 8) rfl rfl rfl (by omega) (by omega) (tc_most (i := i) hC (Rel_C hR) hB (Rel_cc hR) n2 n5 h)
  · have e1 := (nI_eq (a := agR g i) (b := 1) (by omega) (by omega)).mp hr
    rw [e1] at h
    refine tb_get (W := 12) (I := i) (J := 10) rfl rfl rfl (by omega) (by omega) ?_
    rw [n7]; exact h
  · have e1 := (nI_eq (a := agR g i) (b := 2) (by omega) (by omega)).mp hr
    rw [e1] at h
    rw [n2]; exact h
  · have e1 := (nI_eq (a := agR g i) (b := 3) (by omega) (by omega)).mp hr
    rw [e1] at h
    exact tc_least (i := i) hC (Rel_C hR) (Rel_cc hR) n2 h
end DE
