/-! ===== taking in proportion: the reference ===== -/
def mk5 (a b c d e : Bool) : Nat := (if a then 1 else 0) + (if b then 2 else 0) + (if c then 4 else 0) + (if d then 8 else 0) + (if e then 16 else 0)
def bm (u : Nat → Bool) : Int32 := nI (mk5 (u 0) (u 1) (u 2) (u 3) (u 4))
theorem bt_0 : ∀ a b c d e : Bool, ((nI (mk5 a b c d e) >>> (nI 0 &&& 31)) &&& 1 = 0) ↔ a = false := by decide +kernel
theorem bt_1 : ∀ a b c d e : Bool, ((nI (mk5 a b c d e) >>> (nI 1 &&& 31)) &&& 1 = 0) ↔ b = false := by decide +kernel
theorem bt_2 : ∀ a b c d e : Bool, ((nI (mk5 a b c d e) >>> (nI 2 &&& 31)) &&& 1 = 0) ↔ c = false := by decide +kernel
theorem bt_3 : ∀ a b c d e : Bool, ((nI (mk5 a b c d e) >>> (nI 3 &&& 31)) &&& 1 = 0) ↔ d = false := by decide +kernel
theorem bt_4 : ∀ a b c d e : Bool, ((nI (mk5 a b c d e) >>> (nI 4 &&& 31)) &&& 1 = 0) ↔ e = false := by decide +kernel
theorem bo_0 : ∀ a b c d e : Bool, nI (mk5 a b c d e) ||| (1 <<< (nI 0 &&& 31)) = nI (mk5 true b c d e) := by decide +kernel
theorem bo_1 : ∀ a b c d e : Bool, nI (mk5 a b c d e) ||| (1 <<< (nI 1 &&& 31)) = nI (mk5 a true c d e) := by decide +kernel
theorem bo_2 : ∀ a b c d e : Bool, nI (mk5 a b c d e) ||| (1 <<< (nI 2 &&& 31)) = nI (mk5 a b true d e) := by decide +kernel
theorem bo_3 : ∀ a b c d e : Bool, nI (mk5 a b c d e) ||| (1 <<< (nI 3 &&& 31)) = nI (mk5 a b c true e) := by decide +kernel
theorem bo_4 : ∀ a b c d e : Bool, nI (mk5 a b c d e) ||| (1 <<< (nI 4 &&& 31)) = nI (mk5 a b c d true) := by decide +kernel
theorem bm_t (u : Nat → Bool) : ∀ k, k < 5 → (((bm u >>> (nI k &&& 31)) &&& 1 = 0) ↔ u k = false) :=
  five (bt_0 _ _ _ _ _) (bt_1 _ _ _ _ _) (bt_2 _ _ _ _ _) (bt_3 _ _ _ _ _) (bt_4 _ _ _ _ _)
theorem bm_o (u : Nat → Bool) : ∀ p, p < 5 → bm u ||| (1 <<< (nI p &&& 31)) = bm (fun k => u k || decide (k = p)) := by
  refine five ?_ ?_ ?_ ?_ ?_
  · unfold bm; rw [bo_0]; simp
  · unfold bm; rw [bo_1]; simp
  · unfold bm; rw [bo_2]; simp
  · unfold bm; rw [bo_3]; simp
  · unfold bm; rw [bo_4]; simp
theorem rmk_ge (rm : Nat → Nat) (u : Nat → Bool) (k : Nat) : -1 ≤ rmk rm u k := by
  unfold rmk
  split <;> omega
theorem rmk_used {rm : Nat → Nat} {u : Nat → Bool} {k : Nat} (h : u k = true) : rmk rm u k = -1 := by
  unfold rmk
  rw [h]; rfl
theorem rmk_free {rm : Nat → Nat} {u : Nat → Bool} {k : Nat} (h : u k = false) : rmk rm u k = (rm k : Int) := by
  unfold rmk
  rw [h]; rfl
theorem rmk_nn {rm : Nat → Nat} {u : Nat → Bool} {k : Nat} (h : 0 ≤ rmk rm u k) : u k = false ∧ rmk rm u k = (rm k : Int) := by
  cases hu : u k with
  | true => rw [rmk_used hu] at h; omega
  | false => exact ⟨rfl, rmk_free hu⟩
/-- the reference's best of the first materials -/
def gB (rm : Nat → Nat) (u : Nat → Bool) (c : Nat) : Int32 := if rmk rm u (bst (rmk rm u) c) < 0 then -1 else nI (bst (rmk rm u) c)
theorem tq_greatest {g : XRow} {p0 p1 p2 p3 : Int32} {q : Nat → Nat} {u : Nat → Bool} {a n : Nat} {post : Int32 → Prop} (hp0 : p0 = nI a) (hp1 : p1 = nI n) (hp2 : p2 = nI (s5 q)) (hp3 : p3 = bm u) (hq : ∀ k, k < 5 → g (a + k) = nI (q k)) (ha : a + 4 < 672) (hm : ∀ k, k < 5 → q k * n < 2 ^ 31) (hb : s5 q < 2 ^ 31) (h0 : 0 < s5 q) (hc : cnt u < 5) (hp : post (nI (pck (rmn q n) u))) : wp_X9_greatest g p0 p1 p2 p3 post := by
  subst hp0 hp1 hp2 hp3
  have hrem : ∀ k, k < 5 → g (nI a + nI k).toNatClampNeg * nI n - g (nI a + nI k).toNatClampNeg * nI n / nI (s5 q) * nI (s5 q) = nI (rmn q n k) := fun k hk => by
    rw [nI_add, nI_clamp (by omega), hq k hk, pk_mul, pk_rem (hm k hk) h0 hb]
    rfl
  have hr31 : ∀ k, rmn q n k < 2 ^ 31 := fun k => rmn_31 (Or.inl h0) hb
  have hne : ¬ nI (s5 q) = 0 := nI_ne0 h0 hb
  have step : ∀ (kk : Int32 → Int32 → Prop) (fu c : Nat), c < 4 → wp_X9_greatest_L6 g (nI a) (nI n) (nI (s5 q)) (bm u) kk fu (nI (c + 2)) (gB (rmn q n) u (c + 1)) → wp_X9_greatest_L6 g (nI a) (nI n) (nI (s5 q)) (bm u) kk (fu + 1) (nI (c + 1)) (gB (rmn q n) u c) := by
    intro kk fu c hc4 hk
    have hbl := bst_le (rmk (rmn q n) u) c
    have e1 : nI (c + 1) + 1 = nI (c + 2) := nI_1 (c + 1)
    have hge := rmk_ge (rmn q n) u (bst (rmk (rmn q n) u) c)
    refine ⟨fun h => absurd h (nI_ge (a := c + 1) (b := 5) (by omega) (by omega)), fun _ => ⟨fun hz => ?_, fun hz x hx => ?_⟩⟩
    · have hu := (bm_t u (c + 1) (by omega)).mp hz
      have er := rmk_free (rm := rmn q n) hu
      rcases Int.lt_or_le (rmk (rmn q n) u (bst (rmk (rmn q n) u) c)) 0 with h9 | h9
      · have eg : gB (rmn q n) u c = -1 := if_pos h9
        have es : bst (rmk (rmn q n) u) (c + 1) = c + 1 := if_pos (by rw [er]; omega)
        have eg2 : gB (rmn q n) u (c + 1) = nI (c + 1) := by
          unfold gB; rw [es, if_neg (by rw [er]; omega)]
        rw [eg2] at hk
        rw [eg]
        refine ⟨fun _ x hx => ?_, fun h => absurd (by decide) h⟩
        rw [hx, e1]; exact hk
      · have eg : gB (rmn q n) u c = nI (bst (rmk (rmn q n) u) c) := if_neg (by omega)
        have hn := rmk_nn h9
        rw [eg]
        refine ⟨fun h => absurd h (nI_pos (by omega)), fun _ => ⟨?_, hne, ?_, hne, ?_, ?_⟩⟩
        · rw [nI_add]; exact vp_in_nI (by omega) (by omega)
        · rw [nI_add]; exact vp_in_nI (by omega) (by omega)
        · rw [hrem _ (by omega), hrem _ (by omega)]
          intro hle x hx
          have hle := (nI_leI (hr31 _) (hr31 _)).mp hle
          have es : bst (rmk (rmn q n) u) (c + 1) = bst (rmk (rmn q n) u) c := if_neg (by rw [er, hn.2]; omega)
          have eg2 : gB (rmn q n) u (c + 1) = nI (bst (rmk (rmn q n) u) c) := by
            unfold gB; rw [es, if_neg (by omega)]
          rw [eg2] at hk
          rw [hx, e1]; exact hk
        · rw [hrem _ (by omega), hrem _ (by omega)]
          intro hle x hx
          have hle : ¬ rmn q n (c + 1) ≤ rmn q n (bst (rmk (rmn q n) u) c) := fun h => hle ((nI_leI (hr31 _) (hr31 _)).mpr h)
          have es : bst (rmk (rmn q n) u) (c + 1) = c + 1 := if_pos (by rw [er, hn.2]; omega)
          have eg2 : gB (rmn q n) u (c + 1) = nI (c + 1) := by
            unfold gB; rw [es, if_neg (by rw [er]; omega)]
          rw [eg2] at hk
          rw [hx, e1]; exact hk
    · have hu : u (c + 1) = true := by
        cases hu : u (c + 1) with
        | true => rfl
        | false => exact absurd ((bm_t u (c + 1) (by omega)).mpr hu) hz
      have er := rmk_used (rm := rmn q n) hu
      have es : bst (rmk (rmn q n) u) (c + 1) = bst (rmk (rmn q n) u) c := if_neg (by rw [er]; omega)
      have eg2 : gB (rmn q n) u (c + 1) = gB (rmn q n) u c := by
        unfold gB; rw [es]
      rw [eg2] at hk
      rw [hx, e1]; exact hk
  refine ⟨6, ?_⟩
  have start : ∀ (kk : Int32 → Int32 → Prop) (fu : Nat), wp_X9_greatest_L6 g (nI a) (nI n) (nI (s5 q)) (bm u) kk fu (nI 1) (gB (rmn q n) u 0) → wp_X9_greatest_L6 g (nI a) (nI n) (nI (s5 q)) (bm u) kk (fu + 1) 0 (-1) := by
    intro kk fu hk
    refine ⟨fun h => absurd h (by decide), fun _ => ⟨fun hz => ⟨fun _ x hx => ?_, fun h => absurd (by decide) h⟩, fun hz x hx => ?_⟩⟩
    · have hu := (bm_t u 0 (by omega)).mp hz
      have er := rmk_free (rm := rmn q n) hu
      have eg : gB (rmn q n) u 0 = nI 0 := if_neg (by show ¬ rmk (rmn q n) u 0 < 0; rw [er]; omega)
      rw [eg] at hk
      rw [hx]; exact hk
    · have hu : u 0 = true := by
        cases hu : u 0 with
        | true => rfl
        | false => exact absurd ((bm_t u 0 (by omega)).mpr hu) hz
      have eg : gB (rmn q n) u 0 = -1 := if_pos (by show rmk (rmn q n) u 0 < 0; rw [rmk_used hu]; omega)
      rw [eg] at hk
      rw [hx]; exact hk
  refine start _ _ (step _ 4 0 (by omega) (step _ 3 1 (by omega) (step _ 2 2 (by omega) (step _ 1 3 (by omega) ?_))))
  refine ⟨fun _ => ?_, fun h => absurd (by decide) h⟩
  have hf := pck_free (rm := rmn q n) hc
  have e : gB (rmn q n) u (3 + 1) = nI (pck (rmn q n) u) := if_neg (by
    show ¬ rmk (rmn q n) u (pck (rmn q n) u) < 0
    rw [rmk_free hf]; omega)
  rw [e]
  exact hp
theorem tq_sum {g : XRow} {p0 : Int32} {a : Nat} {post : Int32 → Prop} (hp0 : p0 = nI a) (ha : a + 4 < 672) (hp : post (i5 g a)) : wp_X9_sum g p0 post := by
  subst hp0
  have hin : ∀ k, k < 5 → vp_in (nI a + nI k) 672 := fun k hk => by rw [nI_add]; exact vp_in_nI (by omega) (by omega)
  have hv : ∀ k, k < 5 → g (nI a + nI k).toNatClampNeg = g (a + k) := fun k hk => by rw [nI_add, nI_clamp (by omega)]
  have step : ∀ (kk : Int32 → Int32 → Prop) (fu c : Nat) (v : Int32), c < 5 → wp_X9_sum_L4 g (nI a) kk fu (nI (c + 1)) (v + g (a + c)) → wp_X9_sum_L4 g (nI a) kk (fu + 1) (nI c) v := by
    intro kk fu c v hc hk
    refine ⟨fun h => absurd h (nI_ge (a := c) (b := 5) (by omega) (by omega)), fun _ => ⟨hin c hc, fun x hx y hy => ?_⟩⟩
    have e1 : nI c + 1 = nI (c + 1) := nI_1 c
    rw [hx, hy, e1, hv c hc]
    exact hk
  refine ⟨6, step _ 5 0 0 (by omega) (step _ 4 1 _ (by omega) (step _ 3 2 _ (by omega) (step _ 2 3 _ (by omega) (step _ 1 4 _ (by omega) ?_))))⟩
  refine ⟨fun _ => ?_, fun h => absurd (by decide) h⟩
  have e : 0 + g (a + 0) + g (a + 1) + g (a + 2) + g (a + 3) + g (a + 4) = i5 g a := by
    unfold i5; rw [Int32.zero_add, Nat.add_zero]
  rw [e]
  exact hp
theorem tq_takes {g part : XRow} {p0 p1 : Int32} {q : Nat → Nat} {a n : Nat} {post : XRow × XRow → Prop} (hp0 : p0 = nI a) (hp1 : p1 = nI n) (hq : ∀ k, k < 5 → g (a + k) = nI (q k)) (ha : a + 4 < 672) (hm : ∀ k, k < 5 → q k * n < 2 ^ 31) (hb : s5 q < 2 ^ 31) (hn : n ≤ s5 q)
    (hp : post (fil g a 5 (fun k => nI (q k - shr q n k)), fil part 0 5 (fun k => nI (shr q n k)))) : wp_X9_takes g part p0 p1 post := by
  subst hp0 hp1
  have h0 : 0 < s5 q ∨ n = 0 := by omega
  refine tq_sum rfl ha ?_
  rw [i5_nI hq]
  have A : ∀ (kk : Int32 → Int32 → XRow → Prop) (fu c : Nat) (v : Int32), c < 5 → wp_X9_takes_L12 g (nI a) (nI n) (nI (s5 q)) kk fu (nI (c + 1)) (v - nI (flr q n c)) (fil part 0 (c + 1) (fun k => nI (flr q n k))) → wp_X9_takes_L12 g (nI a) (nI n) (nI (s5 q)) kk (fu + 1) (nI c) v (fil part 0 c (fun k => nI (flr q n k))) := by
    intro kk fu c v hc hk
    have e1 : nI c + 1 = nI (c + 1) := nI_1 c
    have eF : ∀ x, x = nI (flr q n c) → upd (fil part 0 c (fun k => nI (flr q n k))) (nI c).toNatClampNeg x = fil part 0 (c + 1) (fun k => nI (flr q n k)) := by
      intro x hx
      subst hx
      have := fil_s part 0 c (fun k => nI (flr q n k))
      rw [nI_clamp (by omega)]
      rw [Nat.zero_add] at this
      exact this
    have eV : ∀ x, x = nI (flr q n c) → (upd (fil part 0 c (fun k => nI (flr q n k))) (nI c).toNatClampNeg x) (nI c).toNatClampNeg = nI (flr q n c) := fun x hx => by rw [pk_us]; exact hx
    refine ⟨fun h => absurd h (nI_ge (a := c) (b := 5) hc (by omega)), fun _ => ⟨fun hz => ?_, fun hz => ?_⟩⟩
    · have hz0 : s5 q = 0 := (nI_eq (a := s5 q) (b := 0) hb (by omega)).mp hz
      have ef : (0 : Int32) = nI (flr q n c) := by
        have : flr q n c = 0 := by show q c * n / s5 q = 0; rw [hz0, Nat.div_zero]
        rw [this]; rfl
      refine ⟨vp_in_nI hc (by omega), vp_in_nI hc (by omega), fun x hx y hy => ?_⟩
      rw [eV 0 ef] at hx
      rw [eF 0 ef, hx, hy, e1]
      exact hk
    · have hz0 : 0 < s5 q := by
        rcases Nat.eq_zero_or_pos (s5 q) with h | h
        · rw [h] at hz; exact absurd rfl hz
        · exact h
      have ef : g (nI a + nI c).toNatClampNeg * nI n / nI (s5 q) = nI (flr q n c) := by
        rw [nI_add, nI_clamp (by omega), hq c hc, pk_mul, pk_div (hm c hc) hz0 hb]
        rfl
      refine ⟨by rw [nI_add]; exact vp_in_nI (by omega) (by omega), hz, vp_in_nI hc (by omega), vp_in_nI hc (by omega), fun x hx y hy => ?_⟩
      rw [eV _ ef] at hx
      rw [eF _ ef, hx, hy, e1]
      exact hk
  refine ⟨6, ?_⟩
  have e0 := fil_0 part 0 (fun k => nI (flr q n k))
  conv => enter [9]; rw [← e0]
  refine A _ 5 0 _ (by omega) (A _ 4 1 _ (by omega) (A _ 3 2 _ (by omega) (A _ 2 3 _ (by omega) (A _ 1 4 _ (by omega) ?_))))
  refine ⟨fun _ => ?_, fun h => absurd (by decide) h⟩
  have em : nI n - nI (flr q n 0) - nI (flr q n 1) - nI (flr q n 2) - nI (flr q n 3) - nI (flr q n 4) = nI (mis q n) := by
    conv => lhs; enter [1, 1, 1, 1, 1]; rw [flr_mis h0]
    exact nI_chain
  rw [em]
  have ef : fil part 0 (4 + 1) (fun k => nI (flr q n k)) = fil part 0 5 (shv q n 0) := fil_congr (fun j hj => by
    show nI (flr q n j) = nI (flr q n j + (if false = true then 1 else 0))
    simp)
  rw [ef]
  have B : ∀ (kk : Int32 → Int32 → XRow → Prop), kk (bm (usd (rmn q n) (mis q n))) 0 (fil part 0 5 (shv q n (mis q n))) → ∀ d t, t + d = mis q n → wp_X9_takes_L67 g (nI a) (nI n) (nI (s5 q)) kk (d + 1) (bm (usd (rmn q n) t)) (nI d) (fil part 0 5 (shv q n t)) := by
    intro kk hk d
    induction d with
    | zero =>
      intro t ht
      have : t = mis q n := by omega
      subst this
      exact ⟨fun _ => hk, fun h => absurd (by decide) h⟩
    | succ d ih =>
      intro t ht
      have h4 := mis_4 h0
      have hp := pck_le (rmn q n) (usd (rmn q n) t)
      have hpos : 0 < s5 q := by
        rcases h0 with h | h
        · exact h
        · exfalso; subst h; unfold mis at ht; omega
      refine ⟨fun h => absurd h (nI_nle (by omega) (by omega)), fun _ => ?_⟩
      refine tq_greatest rfl rfl rfl rfl hq ha hm hb hpos (by rw [cnt_usd _ _ (by omega)]; omega) ?_
      intro x hx
      refine ⟨vp_in_nI (by omega) (by omega), vp_in_nI (by omega) (by omega), fun y hy => ?_⟩
      have e2 : nI (d + 1) + (-1) = nI d := pk_m1 d
      have e3 : x = bm (usd (rmn q n) (t + 1)) := by rw [hx, bm_o _ _ (by omega)]; rfl
      rw [hy, e2, e3, nI_clamp (by omega)]
      have e5 : fil part 0 5 (shv q n t) (pck (rmn q n) (usd (rmn q n) t)) = shv q n t (pck (rmn q n) (usd (rmn q n) t)) := by
        have := fil_in (f := part) (b := 0) (k := 5) (v := shv q n t) (j := pck (rmn q n) (usd (rmn q n) t)) (by omega)
        rw [Nat.zero_add] at this
        exact this
      have e6 := fil_upd part 0 5 (shv q n t) (p := pck (rmn q n) (usd (rmn q n) t)) (by omega) (shv q n t (pck (rmn q n) (usd (rmn q n) t)) + 1)
      rw [Nat.zero_add] at e6
      have ea : fil part 0 5 (fun j => if j = pck (rmn q n) (usd (rmn q n) t) then shv q n t (pck (rmn q n) (usd (rmn q n) t)) + 1 else shv q n t j) = fil part 0 5 (shv q n (t + 1)) :=
        fil_congr (fun j hj => by
          rw [← shv_up (by omega) j]
          by_cases hjp : j = pck (rmn q n) (usd (rmn q n) t)
          · rw [if_pos hjp, if_pos hjp, ← hjp]
          · rw [if_neg hjp, if_neg hjp])
      rw [e5, e6, ea]
      exact ih (t + 1) (by omega)
  refine ⟨mis q n + 1, B _ ?_ (mis q n) 0 (by omega)⟩
  have C : ∀ (kk : Int32 → XRow → Prop) (fu c : Nat), c < 5 → wp_X9_takes_L112 (nI a) (fil part 0 5 (shv q n (mis q n))) kk fu (nI (c + 1)) (fil g a (c + 1) (fun k => nI (q k - shr q n k))) → wp_X9_takes_L112 (nI a) (fil part 0 5 (shv q n (mis q n))) kk (fu + 1) (nI c) (fil g a c (fun k => nI (q k - shr q n k))) := by
    intro kk fu c hc hk
    refine ⟨fun h => absurd h (nI_ge (a := c) (b := 5) hc (by omega)), fun _ => ⟨by rw [nI_add]; exact vp_in_nI (by omega) (by omega), vp_in_nI hc (by omega), by rw [nI_add]; exact vp_in_nI (by omega) (by omega), fun x hx => ?_⟩⟩
    have e1 : nI c + 1 = nI (c + 1) := nI_1 c
    have e2 : fil part 0 5 (shv q n (mis q n)) c = nI (shr q n c) := by
      have := fil_in (f := part) (b := 0) (k := 5) (v := shv q n (mis q n)) hc
      rw [Nat.zero_add] at this
      exact this
    rw [hx, e1, nI_add, nI_clamp (by omega), nI_clamp (by omega), e2, fil_out (by omega), hq c hc, pk_sub (shr_q h0 hn c), fil_s g a c (fun k => nI (q k - shr q n k))]
    exact hk
  refine ⟨6, ?_⟩
  have e1 := fil_0 g a (fun k => nI (q k - shr q n k))
  conv => enter [6]; rw [← e1]
  refine C _ 5 0 (by omega) (C _ 4 1 (by omega) (C _ 3 2 (by omega) (C _ 2 3 (by omega) (C _ 1 4 (by omega) ?_))))
  refine ⟨fun _ => hp, fun h => absurd (by decide) h⟩
