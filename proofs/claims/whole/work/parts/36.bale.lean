/-! ===== level 2: a bale ===== -/
def zS (z : Int32) : Int32 := z * 1103515245 + 12345
def zN (z : Int32) : Nat → Int32 | 0 => z | t + 1 => zS (zN z t)
def zK (z : Int32) (n : Nat) : Nat := z.toBitVec.toNat / 2 ^ 16 % n
def hitB (s : Nat → Nat) (w x : Nat) : Bool := decide (pfx s w ≤ x) && decide (x < pfx s (w + 1))
def hitN (s : Nat → Nat) (w n : Nat) (z : Int32) : Nat → Nat | 0 => 0 | t + 1 => hitN s w n z t + (bif hitB s w (zK (zN z (t + 1)) n) then 1 else 0)
theorem hitN_le (s : Nat → Nat) (w n : Nat) (z : Int32) : ∀ t, hitN s w n z t ≤ t
  | 0 => Nat.le_refl _
  | t + 1 => by
    have := hitN_le s w n z t
    show hitN s w n z t + (bif hitB s w (zK (zN z (t + 1)) n) then 1 else 0) ≤ t + 1
    cases hitB s w (zK (zN z (t + 1)) n) with
    | false => show _ + 0 ≤ _; omega
    | true => show _ + 1 ≤ _; omega
/-- what one bale takes, and its numbers -/
def bq (g : XRow) (m : Nat) : Nat → Nat := kq g (31 + 11 * m)
def bs (g : XRow) (m : Nat) : Nat → Nat := shr (bq g m) (cn (g 8))
def bw (g : XRow) (m : Nat) : Nat := cn (g (26 + 11 * m))
def bsm (g : XRow) (m : Nat) : Nat := hitN (bs g m) (bw g m) (cn (g 8)) (g 1) (cn (g 9)) * 1000 / cn (g 9)
def blp (g : XRow) (m : Nat) : Bool := decide (g 10 = 1) && decide (gBy (bsm g m) = 3)
def oB0 (g : XRow) (m : Nat) : XRow := upd (fil (upd (upd (fil g (31 + 11 * m) 5 (fun k => nI (bq g m k - bs g m k))) 2 (nI (cn (g 2) + 1))) (36 + 11 * m) (g (36 + 11 * m) + 1)) (132 + 9 * cn (g 2)) 5 (fun k => nI (bs g m k))) (137 + 9 * cn (g 2)) (g (26 + 11 * m))
def oB1 (g : XRow) (m : Nat) : XRow := upd (upd (upd (upd (oB0 g m) 1 (zN (g 1) (cn (g 9)))) (138 + 9 * cn (g 2)) (nI (bsm g m))) (139 + 9 * cn (g 2)) 0) (140 + 9 * cn (g 2)) (-1)
def oBale (g : XRow) (m : Nat) : XRow := bif blp g m then fil (upd (oB1 g m) (139 + 9 * cn (g 2)) 2) 11 5 (fun k => nI (cn (g (11 + k)) + bs g m k)) else oB1 g m
theorem upd_self {f : XRow} {k : Nat} {x : Int32} (h : f k = x) : upd f k x = f := by
  funext j
  by_cases hj : j = k
  · subst hj; rw [pk_us, h]
  · rw [un hj]
theorem upd_upd {f : XRow} {k : Nat} {x y : Int32} : upd (upd f k x) k y = upd f k y := by
  funext j
  by_cases hj : j = k
  · subst hj; rw [pk_us, pk_us]
  · rw [un hj, un hj, un hj]
section BA
variable {b : Nat} {d : PD} {g : XRow}
theorem set_ok (hS : IS g) : (g 8 = nI (cn (g 8)) ∧ 10 ≤ cn (g 8) ∧ cn (g 8) ≤ 200) ∧ (g 9 = nI (cn (g 9)) ∧ 1 ≤ cn (g 9) ∧ cn (g 9) ≤ 50) ∧ (g 10 = nI (cn (g 10)) ∧ cn (g 10) ≤ 1) := by
  obtain ⟨_, _, h8, h9, h10⟩ := hS
  have a := ok_cn h8 (by omega)
  have c := ok_cn h9 (by omega)
  have e := ok_cn h10 (by omega)
  exact ⟨a, c, e.1, e.2.2⟩
/-- a kilo drawn -/
theorem zK_eq {z : Int32} {n : Nat} (hn : 0 < n) (hn2 : n < 2 ^ 31) : xUshr z 16 - xUshr z 16 / nI n * nI n = nI (zK z n) ∧ zK z n < n := by
  have h1 : xUshr z 16 = nI (z.toBitVec.toNat / 2 ^ 16) := by
    have h := pk_ushr z 16 16 (by decide)
    have hb : z.toBitVec.toNat / 2 ^ 16 < 2 ^ 16 := by have := z.toBitVec.isLt; omega
    apply Int32.toBitVec_inj.mp
    apply BitVec.eq_of_toNat_eq
    rw [pk_tn (by omega)]
    exact h
  have hb : z.toBitVec.toNat / 2 ^ 16 < 2 ^ 16 := by have := z.toBitVec.isLt; omega
  refine ⟨?_, Nat.mod_lt _ hn⟩
  rw [h1, pk_rem (by omega) hn hn2]
  rfl
/-- samples, the class -/
theorem tc_samples {fS fN : XRow} {i w n : Nat} {z : Int32} {s : Nat → Nat} {post : Int32 × Int32 → Prop} (hS : IS g) (hfS : RS fS g) (hi : i < 60) (hw : w < 5) (hs : ∀ k, k < 5 → fN (i * 12 + k) = nI (s k)) (hn : n = cn (g 8)) (hsum : s5 s = n) (h : post (nI (hitN s w n z (cn (g 9)) * 1000 / cn (g 9)), zN z (cn (g 9)))) : wp_X4_sampledPurity fS fN z (nI i) (nI w) (nI n) post := by
  obtain ⟨⟨_, n1, n2⟩, ⟨l0, l1, l2⟩, _⟩ := set_ok hS
  have hp5 : ∀ a, a ≤ 5 → pfx s a ≤ 200 := fun a ha => by have := pfx_mono s ha; rw [pfx_5] at this; omega
  refine loop_0 (fun f k (v : Int32) => wp_X4_sampledPurity_L6 fN (nI i) (nI w) _ f (nI k) v) (fun k v => v = nI (pfx s k)) w 0 rfl ?_ ?_
  · intro f v hv
    subst hv
    refine if_y (nI_le (Nat.le_refl _) (by omega)) (tb_get (W := 12) (I := i) (J := w) rfl rfl rfl (by omega) (by omega) ?_)
    rw [hs w hw]
    intro x hx
    rw [nI_add] at hx
    replace hx : x = nI (pfx s (w + 1)) := hx
    subst hx
    refine tb_get (W := 5) (I := 0) (J := 3) rfl rfl rfl (by omega) (by omega) ?_
    rw [show 0 * 5 + 3 = 3 from rfl, (hfS 3 (by omega)).trans l0]
    refine loop_0 (fun f t (v : Int32 × Int32) => wp_X4_sampledPurity_L66 (nI n) (nI (pfx s w)) (nI (pfx s (w + 1))) (nI (cn (g 9))) (fun (_ : Int32) (v27 : Int32) (v28 : Int32) => wp_X8_perThousand v27 (nI (cn (g 9))) (fun u29 : Int32 => post (u29, v28))) f (nI t) v.1 v.2) (fun t v => v.1 = nI (hitN s w n z t) ∧ v.2 = zN z t) (cn (g 9)) (0, z) ⟨rfl, rfl⟩ ?_ ?_
    · intro f v hv
      obtain ⟨t1, t2⟩ := hv
      generalize v.1 = v1 at t1 ⊢
      generalize v.2 = v2 at t2 ⊢
      subst t1 t2
      have hh := hitN_le s w n z (cn (g 9))
      refine if_y (nI_le (Nat.le_refl _) (by omega)) (if_n (nI_nle (by omega) (by omega)) ⟨nI_ne0 (by omega) (by omega), ?_⟩)
      rw [show (1000 : Int32) = nI 1000 from rfl, pk_mul, pk_div (by omega) (by omega) (by omega)]
      exact h
    · intro f t v ht hv hk
      obtain ⟨t1, t2⟩ := hv
      generalize v.1 = v1 at t1 ⊢
      generalize v.2 = v2 at t2 ⊢
      subst t1 t2
      have e1 : nI t + 1 = nI (t + 1) := nI_1 t
      have hh := hitN_le s w n z t
      refine if_n (nI_ge ht (by omega)) ?_
      intro x hx
      replace hx : x = zN z (t + 1) := hx
      subst hx
      refine if_n (nI_nle (by omega) (by omega)) ⟨nI_ne0 (by omega) (by omega), ?_⟩
      intro y hy
      obtain ⟨k1, k2⟩ := zK_eq (z := zN z (t + 1)) (n := n) (by omega) (by omega)
      rw [k1] at hy
      subst hy
      have hwi : wi (nI (zK (zN z (t + 1)) n)) (nI (pfx s w)) (nI (pfx s (w + 1)) - 1) = hitB s w (zK (zN z (t + 1)) n) := by
        have a1 := hp5 w (by omega)
        have a2 := hp5 (w + 1) (by omega)
        unfold wi hitB
        congr 1
        · by_cases c1 : pfx s w ≤ zK (zN z (t + 1)) n
          · rw [decide_eq_false (nI_nlt c1 (by omega)), decide_eq_true c1]; rfl
          · rw [decide_eq_true (nI_lt (by omega) (by omega)), decide_eq_false c1]; rfl
        · have hti : (nI (pfx s (w + 1)) - 1).toInt = (pfx s (w + 1) : Int) - 1 := by
            have := pk_sub_toInt (a := pfx s (w + 1)) (b := 1) (by omega) (by omega)
            exact this
          by_cases c1 : zK (zN z (t + 1)) n < pfx s (w + 1)
          · rw [decide_eq_true c1, decide_eq_false]
            · rfl
            · rw [Int32.lt_iff_toInt_lt, hti, nI_toInt (by omega)]; omega
          · rw [decide_eq_false c1, decide_eq_true]
            · rfl
            · rw [Int32.lt_iff_toInt_lt, hti, nI_toInt (by omega)]; omega
      refine tw_wi ?_
      rw [hwi]
      have es : hitN s w n z (t + 1) = hitN s w n z t + (bif hitB s w (zK (zN z (t + 1)) n) then 1 else 0) := rfl
      cases hb : hitB s w (zK (zN z (t + 1)) n) with
      | true =>
        rw [hb] at es
        refine bb_t rfl (fun a ha c hc => ?_)
        have e9 : nI (hitN s w n z t) + 1 = nI (hitN s w n z t + 1) := nI_1 _
        rw [ha, hc, e1, e9]
        exact hk (_, _) ⟨by rw [es]; rfl, rfl⟩
      | false =>
        rw [hb] at es
        refine bb_f rfl (fun a ha c hc => ?_)
        rw [ha, hc, e1, Int32.add_zero]
        exact hk (_, _) ⟨by rw [es]; rfl, rfl⟩
  · intro f k v hk2 hv hk
    subst hv
    have e1 : nI k + 1 = nI (k + 1) := nI_1 k
    refine if_n (nI_ge hk2 (by omega)) (tb_get (W := 12) (I := i) (J := k) rfl rfl rfl (by omega) (by omega) ?_)
    rw [hs k (by omega)]
    intro x hx y hy
    rw [hx, hy, e1, nI_add]
    exact hk _ rfl
/-- the reference finds whose kilo it is -/
theorem tm_whose {i x : Nat} {G : XRow} {s : Nat → Nat} {kk : Int32 → Int32 → Prop} (hi : i < 60) (hs : ∀ k, k < 5 → G (132 + 9 * i + k) = nI (s k)) (hsum : s5 s ≤ 200) (hx : x < s5 s) (v3 : XRow) (hG : ∀ k, k < 5 → upd v3 1 (zS (v3 1)) (132 + 9 * i + k) = G (132 + 9 * i + k)) (h : ∀ k, k < 5 → pfx s k ≤ x → x < pfx s (k + 1) → kk (nI k) (nI (x - pfx s k))) : ∃ fl, wp_X9_samples_L52 (nI i) v3 kk fl 0 (nI x) := by
  have hp5 : ∀ a, a ≤ 5 → pfx s a ≤ 200 := fun a ha => by have := pfx_mono s ha; rw [pfx_5] at this; omega
  have key : ∀ r k, r + k = 5 → k < 5 → pfx s k ≤ x → wp_X9_samples_L52 (nI i) v3 kk r (nI k) (nI (x - pfx s k)) := by
    intro r
    induction r with
    | zero => intro k hr hk; omega
    | succ r ih =>
      intro k hr hk5 hle
      have e1 : nI k + 1 = nI (k + 1) := nI_1 k
      have gv : upd v3 ((1 : Int32).toNatClampNeg) ((v3 ((1 : Int32).toNatClampNeg) * 1103515245) + 12345) (132 + 9 * i + k) = nI (s k) := (hG k hk5).trans (hs k hk5)
      have hsk := s5_ge s k hk5
      refine tm_bAt (m := i) (w := k) rfl rfl ⟨v672 (by omega), ?_⟩
      rw [tn_nI (by omega), gv]
      refine pk_lt (x - pfx s k) (s k) (fun hlt => h k hk5 hle (by show x < pfx s k + s k; omega)) (fun hge => tm_bAt (m := i) (w := k) rfl rfl ⟨v672 (by omega), ?_⟩)
      rw [tn_nI (by omega), gv, pk_sub hge]
      intro y hy z hz
      rw [hy, hz, e1]
      have hlt5 : k + 1 < 5 := by
        rcases Nat.lt_or_ge (k + 1) 5 with h9 | h9
        · exact h9
        · exfalso
          have : k = 4 := by omega
          subst this
          have e5 := pfx_5 s
          have : pfx s 5 = pfx s 4 + s 4 := rfl
          omega
      have e : x - pfx s k - s k = x - pfx s (k + 1) := by show _ = x - (pfx s k + s k); omega
      rw [e]
      exact ih (k + 1) (by omega) hlt5 (by show pfx s k + s k ≤ x; omega)
  exact ⟨5, key 5 0 rfl (by omega) (Nat.zero_le _)⟩
theorem hit_iff {s : Nat → Nat} {w x k : Nat} (hw : w < 5) (hk : k < 5) (h1 : pfx s k ≤ x) (h2 : x < pfx s (k + 1)) : hitB s w x = decide (k = w) := by
  unfold hitB
  by_cases h : k = w
  · subst h
    rw [decide_eq_true h1, decide_eq_true h2, decide_eq_true rfl]; rfl
  · rw [decide_eq_false h]
    rcases Nat.lt_or_gt_of_ne h with h3 | h3
    · have := pfx_mono s (show k + 1 ≤ w by omega)
      rw [decide_eq_false (by omega : ¬ pfx s w ≤ x)]; rfl
    · have := pfx_mono s (show w + 1 ≤ k by omega)
      rw [decide_eq_false (by omega : ¬ x < pfx s (w + 1))]; exact Bool.and_false _
theorem tm_samples {i w n : Nat} {G : XRow} {s : Nat → Nat} {post : Int32 × XRow → Prop} (h9 : ok (G 9) 1 50) (hi : i < 60) (hw : w < 5) (hs : ∀ k, k < 5 → G (132 + 9 * i + k) = nI (s k)) (hwv : G (137 + 9 * i) = nI w) (hn : 0 < n) (hn2 : n ≤ 200) (hsum : s5 s = n) (h : post (nI (hitN s w n (G 1) (cn (G 9)) * 1000 / cn (G 9)), upd G 1 (zN (G 1) (cn (G 9))))) : wp_X9_samples G (nI i) (nI n) post := by
  obtain ⟨l0, l1, l2⟩ := ok_cn h9 (by omega)
  have g9 : ∀ z, upd G 1 z ((9 : Int32).toNatClampNeg) = nI (cn (G 9)) := fun z => (un (show 9 ≠ 1 by omega)).trans l0
  refine loop_0 (fun f t (v : Int32 × XRow) => wp_X9_samples_L5 (nI i) (nI n) (fun (_ : Int32) (v19 : Int32) (v20 : XRow) => vp_in 9 672 ∧ ((¬ (v20 ((9 : Int32).toNatClampNeg)) = 0) ∧ (post ((v19 * 1000) / (v20 ((9 : Int32).toNatClampNeg)), v20)))) f (nI t) v.1 v.2) (fun t v => v.1 = nI (hitN s w n (G 1) t) ∧ v.2 = upd G 1 (zN (G 1) t)) (cn (G 9)) (0, G) ⟨rfl, (upd_self rfl).symm⟩ ?_ ?_
  · intro f v hv
    obtain ⟨t1, t2⟩ := hv
    generalize v.1 = v1 at t1 ⊢
    generalize v.2 = v2 at t2 ⊢
    subst t1 t2
    have hh := hitN_le s w n (G 1) (cn (G 9))
    refine ⟨v672 (n := 9) (by omega), if_y ?_ ⟨v672 (n := 9) (by omega), ?_, ?_⟩⟩
    · rw [g9]; exact nI_le (Nat.le_refl _) (by omega)
    · rw [g9]; exact nI_ne0 (by omega) (by omega)
    · rw [g9, show (1000 : Int32) = nI 1000 from rfl, pk_mul, pk_div (by omega) (by omega) (by omega)]
      exact h
  · intro f t v ht hv hk
    obtain ⟨t1, t2⟩ := hv
    generalize v.1 = v1 at t1 ⊢
    generalize v.2 = v2 at t2 ⊢
    subst t1 t2
    have e1 : nI t + 1 = nI (t + 1) := nI_1 t
    have ez : upd (upd G 1 (zN (G 1) t)) ((1 : Int32).toNatClampNeg) ((upd G 1 (zN (G 1) t) ((1 : Int32).toNatClampNeg) * 1103515245) + 12345) = upd G 1 (zN (G 1) (t + 1)) := by
      show upd (upd G 1 (zN (G 1) t)) 1 (upd G 1 (zN (G 1) t) 1 * 1103515245 + 12345) = _
      rw [pk_us, upd_upd]
      rfl
    refine ⟨v672 (n := 9) (by omega), if_n ?_ ⟨v672 (n := 1) (by omega), v672 (n := 1) (by omega), v672 (n := 1) (by omega), nI_ne0 hn (by omega), ?_⟩⟩
    · rw [g9]; exact nI_ge ht (by omega)
    · rw [ez]
      intro x hx
      rw [show upd G 1 (zN (G 1) (t + 1)) ((1 : Int32).toNatClampNeg) = zN (G 1) (t + 1) from pk_us] at hx
      obtain ⟨k1, k2⟩ := zK_eq (z := zN (G 1) (t + 1)) (n := n) hn (by omega)
      rw [k1] at hx
      subst hx
      refine tm_whose (G := G) (s := s) hi hs (by omega) (by omega) _ (fun k hk => ?_) (fun k hk7 h1 h2 => ?_)
      · show upd (upd G 1 _) 1 _ _ = _
        rw [un (by omega), un (by omega)]
      · refine tm_bAt (m := i) (w := 5) rfl rfl ⟨v672 (by omega), ?_⟩
        rw [tn_nI (by omega), un (by omega), show 132 + 9 * i + 5 = 137 + 9 * i by omega, hwv]
        have hh := hit_iff (s := s) hw hk7 h1 h2
        have es : hitN s w n (G 1) (t + 1) = hitN s w n (G 1) t + (bif hitB s w (zK (zN (G 1) (t + 1)) n) then 1 else 0) := rfl
        refine pk_eq k w (fun he a ha c hc => ?_) (fun hne a ha c hc => ?_)
        · rw [hh, decide_eq_true he] at es
          have e9 : nI (hitN s w n (G 1) t) + 1 = nI (hitN s w n (G 1) t + 1) := nI_1 _
          rw [ha, hc, e1, e9]
          exact hk (_, _) ⟨by rw [es]; rfl, rfl⟩
        · rw [hh, decide_eq_false hne] at es
          rw [ha, hc, e1, Int32.add_zero]
          exact hk (_, _) ⟨by rw [es]; rfl, rfl⟩
end BA
