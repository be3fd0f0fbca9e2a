/-! ===== taking in proportion: the class ===== -/
def fil (f : XRow) (b k : Nat) (v : Nat → Int32) : XRow := fun j => if b ≤ j ∧ j < b + k then v (j - b) else f j
theorem fil_0 (f : XRow) (b : Nat) (v : Nat → Int32) : fil f b 0 v = f := by
  funext j
  exact if_neg (by omega)
theorem fil_in {f : XRow} {b k : Nat} {v : Nat → Int32} {j : Nat} (h : j < k) : fil f b k v (b + j) = v j := by
  unfold fil
  rw [if_pos (by omega)]
  congr 1
  omega
theorem fil_out {f : XRow} {b k : Nat} {v : Nat → Int32} {j : Nat} (h : j < b ∨ b + k ≤ j) : fil f b k v j = f j := if_neg (by omega)
theorem fil_s (f : XRow) (b k : Nat) (v : Nat → Int32) : upd (fil f b k v) (b + k) (v k) = fil f b (k + 1) v := by
  funext j
  by_cases h : j = b + k
  · subst h
    rw [pk_us, fil_in (by omega)]
  · rw [pk_un h]
    unfold fil
    by_cases h2 : b ≤ j ∧ j < b + k
    · rw [if_pos h2, if_pos (by omega)]
    · rw [if_neg h2, if_neg (by omega)]
theorem fil_congr {f : XRow} {b k : Nat} {v w : Nat → Int32} (h : ∀ j, j < k → v j = w j) : fil f b k v = fil f b k w := by
  funext j
  unfold fil
  by_cases h2 : b ≤ j ∧ j < b + k
  · rw [if_pos h2, if_pos h2]; exact h _ (by omega)
  · rw [if_neg h2, if_neg h2]
theorem fil_upd (f : XRow) (b k : Nat) (v : Nat → Int32) {p : Nat} (hp : p < k) (x : Int32) : upd (fil f b k v) (b + p) x = fil f b k (fun j => if j = p then x else v j) := by
  funext j
  by_cases h : j = b + p
  · subst h
    rw [pk_us, fil_in hp, if_pos rfl]
  · rw [pk_un h]
    unfold fil
    by_cases h2 : b ≤ j ∧ j < b + k
    · rw [if_pos h2, if_pos h2]; exact (if_neg (by omega)).symm
    · rw [if_neg h2, if_neg h2]
theorem mul_62 {a b : Nat} (ha : a < 2 ^ 31) (hb : b < 2 ^ 31) : a * b < 2 ^ 63 := by
  have h := Nat.mul_le_mul (show a ≤ 2 ^ 31 by omega) (show b ≤ 2 ^ 31 by omega)
  omega
theorem s5_ge (q : Nat → Nat) : ∀ k, k < 5 → q k ≤ s5 q := by
  refine five ?_ ?_ ?_ ?_ ?_ <;> unfold s5 <;> omega
/-- n is a whole of its shares and what is missing -/
theorem flr_mis {q : Nat → Nat} {n : Nat} (h : 0 < s5 q ∨ n = 0) : n = mis q n + flr q n 4 + flr q n 3 + flr q n 2 + flr q n 1 + flr q n 0 := by
  rcases h with h | h
  · have h1 := flr_le (n := n) h
    have e : s5 (flr q n) = flr q n 0 + flr q n 1 + flr q n 2 + flr q n 3 + flr q n 4 := rfl
    unfold mis
    omega
  · subst h
    have e : ∀ k, flr q 0 k = 0 := fun k => by show q k * 0 / s5 q = 0; rw [Nat.mul_zero, Nat.zero_div]
    unfold mis
    rw [e, e, e, e, e]
    omega
theorem mis_4 {q : Nat → Nat} {n : Nat} (h : 0 < s5 q ∨ n = 0) : mis q n ≤ 4 := by
  rcases h with h | h
  · exact mis_le h
  · subst h; unfold mis; omega
theorem shr_q {q : Nat → Nat} {n : Nat} (h : 0 < s5 q ∨ n = 0) (hn : n ≤ s5 q) (k : Nat) : shr q n k ≤ q k := by
  rcases h with h | h
  · exact shr_le h hn
  · subst h
    have e : flr q 0 k = 0 := by show q k * 0 / s5 q = 0; rw [Nat.mul_zero, Nat.zero_div]
    have e2 : mis q 0 = 0 := by unfold mis; omega
    unfold shr
    rw [e, e2]
    show 0 + (if false = true then 1 else 0) ≤ q k
    simp
theorem flr_31 {q : Nat → Nat} {n : Nat} (h : 0 < s5 q ∨ n = 0) (hn : n < 2 ^ 31) : ∀ k, k < 5 → flr q n k < 2 ^ 31 := by
  have := flr_mis h
  refine five ?_ ?_ ?_ ?_ ?_ <;> omega
theorem rmn_31 {q : Nat → Nat} {n k : Nat} (h : 0 < s5 q ∨ n = 0) (hb : s5 q < 2 ^ 31) : rmn q n k < 2 ^ 31 := by
  rcases h with h | h
  · have : rmn q n k < s5 q := Nat.mod_lt _ h
    omega
  · subst h
    show q k * 0 % s5 q < _
    rw [Nat.mul_zero, Nat.zero_mod]
    omega
theorem nI_chain {m a b c d e : Nat} : nI (m + e + d + c + b + a) - nI a - nI b - nI c - nI d - nI e = nI m := by
  rw [pk_sub (by omega), pk_sub (by omega), pk_sub (by omega), pk_sub (by omega), pk_sub (by omega)]
  congr 1
  omega
/-- what is in the row of remainders after t picks -/
def rmv (rm : Nat → Nat) (t : Nat) : Nat → Int32 := fun k => if usd rm t k then -1 else nI (rm k)
theorem rmv_toInt {rm : Nat → Nat} {t k : Nat} (h : rm k < 2 ^ 31) : (rmv rm t k).toInt = rmk rm (usd rm t) k := by
  unfold rmv rmk
  cases usd rm t k with
  | true => rfl
  | false => exact nI_toInt h
def shv (q : Nat → Nat) (n t : Nat) : Nat → Int32 := fun k => nI (flr q n k + (if usd (rmn q n) t k then 1 else 0))
theorem shv_up {q : Nat → Nat} {n t : Nat} (ht : t < 5) (k : Nat) : (if k = pck (rmn q n) (usd (rmn q n) t) then shv q n t k + 1 else shv q n t k) = shv q n (t + 1) k := by
  have hc := cnt_usd (rmn q n) t (by omega)
  have hf := pck_free (rm := rmn q n) (u := usd (rmn q n) t) (by omega)
  unfold shv
  have e : usd (rmn q n) (t + 1) k = (usd (rmn q n) t k || decide (k = pck (rmn q n) (usd (rmn q n) t))) := rfl
  rw [e]
  by_cases h : k = pck (rmn q n) (usd (rmn q n) t)
  · rw [if_pos h]
    rw [← h] at hf
    rw [hf, nI_1]
    congr 1
    simp [h]
  · rw [if_neg h]
    congr 2
    simp [h]
theorem rmv_up {rm : Nat → Nat} {t : Nat} (k : Nat) : (if k = pck rm (usd rm t) then -1 else rmv rm t k) = rmv rm (t + 1) k := by
  unfold rmv
  have e : usd rm (t + 1) k = (usd rm t k || decide (k = pck rm (usd rm t))) := rfl
  rw [e]
  by_cases h : k = pck rm (usd rm t)
  · rw [if_pos h]; simp [h]
  · rw [if_neg h]; simp [h]

theorem tk16_o5 {p0 p1 p2 u1 : Int32} {P F R : XRow} {q : Nat → Nat} {I J n fu : Nat} {kk : Int32 → Int32 → XRow → XRow → Prop} (hp0 : p0 = nI I) (hp1 : p1 = nI n) (hp2 : p2 = nI J) (hu : u1 = nI (s5 q)) (hq : ∀ k, k < 5 → P (I * 5 + k) = nI (q k)) (hI : I * 5 + 4 < 50) (hJ : J * 5 + 4 < 50) (hd : I ≠ J) (hb : s5 q < 2 ^ 31) (hn : n < 2 ^ 31) (h0 : 0 < s5 q ∨ n = 0) {c : Nat} (hc : c < 5) {v : Int32} (hv : fil F (J * 5) c (fun k => nI (flr q n k)) (I * 5 + c) = P (I * 5 + c))
    (hk : wp_X4_takeShare_o5_L16 p0 p1 p2 u1 kk fu (nI (c + 1)) (v - nI (flr q n c)) (fil F (J * 5) (c + 1) (fun k => nI (flr q n k))) (fil R 0 (c + 1) (fun k => nI (rmn q n k)))) :
    wp_X4_takeShare_o5_L16 p0 p1 p2 u1 kk (fu + 1) (nI c) v (fil F (J * 5) c (fun k => nI (flr q n k))) (fil R 0 c (fun k => nI (rmn q n k))) := by
  subst hp0 hp1 hp2 hu
  have hqc := s5_ge q c hc
  refine ⟨fun h => absurd h (nI_ge (a := c) (b := 5) hc (by omega)), fun _ => tb_get (W := 5) (I := I) (J := c) rfl rfl rfl (by omega) (by omega) ?_⟩
  intro x7 hx7
  have e7 : x7 = lN (q c * n) := by
    rw [hx7, hv, hq c hc, nI_l (by omega), nI_l hn, lN_mul]
  subst e7
  have hm := mul_62 (a := q c) (b := n) (by omega) hn
  have eR : ∀ x, x = nI (rmn q n c) → upd (fil R 0 c (fun k => nI (rmn q n k))) (0 * 5 + c) x = fil R 0 (c + 1) (fun k => nI (rmn q n k)) := by
    intro x hx
    subst hx
    have := fil_s R 0 c (fun k => nI (rmn q n k))
    rw [show 0 * 5 + c = 0 + c by omega]
    exact this
  have eF : ∀ x, x = nI (flr q n c) → upd (fil F (J * 5) c (fun k => nI (flr q n k))) (J * 5 + c) x = fil F (J * 5) (c + 1) (fun k => nI (flr q n k)) := by
    intro x hx
    subst hx
    exact fil_s F (J * 5) c (fun k => nI (flr q n k))
  rcases Nat.eq_zero_or_pos (s5 q) with hz | hz
  · have hle : nI (s5 q) ≤ 0 := by rw [hz]; decide
    have hn0 : n = 0 := by omega
    have ef : flr q n c = 0 := by show q c * n / s5 q = 0; rw [hz, Nat.div_zero]
    have er : rmn q n c = 0 := by show q c * n % s5 q = 0; rw [hn0, Nat.mul_zero, Nat.zero_mod]
    refine ⟨fun _ => ⟨fun _ => ?_, fun h => absurd hle h⟩, fun h => absurd hle h⟩
    refine tb_put (W := 5) (I := 0) (J := c) rfl rfl rfl (by omega) (by omega) ?_
    rw [eR 0 (by rw [er]; rfl)]
    refine tb_put (W := 5) (I := J) (J := c) rfl rfl rfl (by omega) (by omega) ?_
    rw [eF 0 (by rw [ef]; rfl)]
    intro x hx y hy
    rw [ef] at hk
    have e1 : nI c + 1 = nI (c + 1) := nI_1 c
    rw [hx, hy, e1]
    exact hk
  · have hle : ¬ nI (s5 q) ≤ 0 := nI_nle hz hb
    have hne : ¬ (nI (s5 q)).toInt64 = 0 := by
      rw [nI_l hb]
      intro h
      have := (lN_eq (a := s5 q) (b := 0) hb (by omega)).mp h
      omega
    refine ⟨fun h => absurd h hle, fun _ => ⟨hne, ?_⟩⟩
    intro x16 hx16
    have e16 : x16 = nI (flr q n c) := by
      rw [hx16, nI_l hb, pk_lDiv hm hz (by omega), lN_i]
      rfl
    subst e16
    refine ⟨fun h => absurd h hle, fun _ => ⟨hne, ?_⟩⟩
    refine tb_put (W := 5) (I := 0) (J := c) rfl rfl rfl (by omega) (by omega) ?_
    rw [eR _ (by rw [nI_l hb, pk_lRem hm hz (by omega), lN_i]; rfl)]
    refine tb_put (W := 5) (I := J) (J := c) rfl rfl rfl (by omega) (by omega) ?_
    rw [eF _ rfl]
    intro x hx y hy
    have e1 : nI c + 1 = nI (c + 1) := nI_1 c
    rw [hx, hy, e1]
    exact hk
theorem tk108_o5 {p2 v26 : Int32} {F R : XRow} {q : Nat → Nat} {J n : Nat} {kk : Int32 → XRow → XRow → Prop} (hp2 : p2 = nI J) (hJ : J * 5 + 4 < 50) (hb : s5 q < 2 ^ 31) (h0 : 0 < s5 q ∨ n = 0) (hv : v26 = nI (mis q n))
    (hk : kk (nI (mis q n)) (fil F (J * 5) 5 (shv q n (mis q n))) (fil R 0 5 (rmv (rmn q n) (mis q n)))) :
    ∀ d t, t + d = mis q n → wp_X4_takeShare_o5_L108 p2 v26 kk (d + 1) (nI t) (fil F (J * 5) 5 (shv q n t)) (fil R 0 5 (rmv (rmn q n) t))
  | 0, t, h => by
    subst hv hp2
    have : t = mis q n := by omega
    subst this
    exact ⟨fun _ => hk, fun h => absurd (nI_le (Nat.le_refl _) (by have := mis_4 h0; omega)) h⟩
  | d + 1, t, h => by
    have ih := tk108_o5 (p2 := p2) (F := F) (R := R) (kk := kk) hp2 hJ hb h0 hv hk d (t + 1) (by omega)
    subst hv hp2
    have h4 := mis_4 h0
    have hp := pck_le (rmn q n) (usd (rmn q n) t)
    refine ⟨fun h9 => absurd h9 (nI_ge (by omega) (by omega)), fun _ => ?_⟩
    refine tb_cog (I := 0) (R := rmk (rmn q n) (usd (rmn q n) t)) rfl (by omega) (by omega) (fun k hk => ?_) ?_
    · rw [show 0 * 5 + k = 0 + k by omega, fil_in hk]
      exact rmv_toInt (rmn_31 h0 hb)
    · show wp_X6_add 5 50 _ (nI J) (nI (pck (rmn q n) (usd (rmn q n) t))) 1 _
      refine tb_add (W := 5) (I := J) (J := pck (rmn q n) (usd (rmn q n) t)) rfl rfl rfl (by omega) (by omega) ?_
      rw [fil_in (by omega), fil_upd _ _ _ _ (by omega)]
      refine tb_put (W := 5) (I := 0) (J := pck (rmn q n) (usd (rmn q n) t)) rfl rfl rfl (by omega) (by omega) ?_
      rw [show 0 * 5 + pck (rmn q n) (usd (rmn q n) t) = 0 + pck (rmn q n) (usd (rmn q n) t) by omega, fil_upd _ _ _ _ (by omega)]
      intro x hx
      have e1 : nI t + 1 = nI (t + 1) := nI_1 t
      rw [hx, e1]
      have ea : fil F (J * 5) 5 (fun j => if j = pck (rmn q n) (usd (rmn q n) t) then shv q n t (pck (rmn q n) (usd (rmn q n) t)) + 1 else shv q n t j) = fil F (J * 5) 5 (shv q n (t + 1)) :=
        fil_congr (fun j hj => by
          rw [← shv_up (by omega) j]
          by_cases hjp : j = pck (rmn q n) (usd (rmn q n) t)
          · rw [if_pos hjp, if_pos hjp, ← hjp]
          · rw [if_neg hjp, if_neg hjp])
      have eb : fil R 0 5 (fun j => if j = pck (rmn q n) (usd (rmn q n) t) then -1 else rmv (rmn q n) t j) = fil R 0 5 (rmv (rmn q n) (t + 1)) :=
        fil_congr (fun j hj => rmv_up j)
      rw [ea, eb]
      exact ih
theorem tk154_o5 {p0 p2 : Int32} {P F : XRow} {q s : Nat → Nat} {I J fu : Nat} {kk : Int32 → XRow → Prop} (hp0 : p0 = nI I) (hp2 : p2 = nI J) (hq : ∀ k, k < 5 → P (I * 5 + k) = nI (q k)) (hs : ∀ k, k < 5 → F (J * 5 + k) = nI (s k)) (hPF : ∀ k, k < 5 → P (J * 5 + k) = F (J * 5 + k)) (hle : ∀ k, k < 5 → s k ≤ q k) (hI : I * 5 + 4 < 50) (hJ : J * 5 + 4 < 50) (hd : I ≠ J) {c : Nat} (hc : c < 5)
    (hk : wp_X4_takeShare_o5_L154 p0 p2 kk fu (nI (c + 1)) (fil P (I * 5) (c + 1) (fun k => nI (q k - s k)))) :
    wp_X4_takeShare_o5_L154 p0 p2 kk (fu + 1) (nI c) (fil P (I * 5) c (fun k => nI (q k - s k))) := by
  subst hp0 hp2
  refine ⟨fun h => absurd h (nI_ge (a := c) (b := 5) hc (by omega)), fun _ => tb_get (W := 5) (I := J) (J := c) rfl rfl rfl (by omega) (by omega) ?_⟩
  refine tb_add (W := 5) (I := I) (J := c) rfl rfl rfl (by omega) (by omega) ?_
  have e : fil P (I * 5) c (fun k => nI (q k - s k)) (I * 5 + c) + -fil P (I * 5) c (fun k => nI (q k - s k)) (J * 5 + c) = nI (q c - s c) := by
    rw [fil_out (by omega), hq c hc, fil_out (by omega), hPF c hc, hs c hc, ← Int32.sub_eq_add_neg, pk_sub (hle c hc)]
  rw [e, fil_s P (I * 5) c (fun k => nI (q k - s k))]
  intro x hx
  have e1 : nI c + 1 = nI (c + 1) := nI_1 c
  rw [hx, e1]
  exact hk

/-- out of a place onto another -/
theorem tb_take5 {p0 p1 p2 : Int32} {P R : XRow} {q : Nat → Nat} {I J n : Nat} {post : (XRow × XRow) → Prop} (hp0 : p0 = nI I) (hp1 : p1 = nI n) (hp2 : p2 = nI J) (hq : ∀ k, k < 5 → P (I * 5 + k) = nI (q k)) (hI : I * 5 + 4 < 50) (hJ : J * 5 + 4 < 50) (hd : I ≠ J) (hb : s5 q < 2 ^ 31) (hn : n ≤ s5 q)
    (hp : ∀ R', post (fil (fil P (J * 5) 5 (fun k => nI (shr q n k))) (I * 5) 5 (fun k => nI (q k - shr q n k)), R')) : wp_X4_takeShare_o5 P R p0 p1 p2 post := by
  have h0 : 0 < s5 q ∨ n = 0 := by omega
  refine tb_sum hp0 hI (by omega) ?_
  rw [i5_nI hq]
  have A := fun {v : Int32} {fu c : Nat} {kk} (hc : c < 5) => tk16_o5 (p0 := p0) (p1 := p1) (p2 := p2) (P := P) (F := P) (R := R) (q := q) (I := I) (J := J) (n := n) (u1 := nI (s5 q)) (v := v) (fu := fu) (kk := kk) hp0 hp1 hp2 rfl hq hI hJ hd hb (by omega) h0 hc (fil_out (by omega))
  refine ⟨6, ?_⟩
  have e0 := fil_0 P (J * 5) (fun k => nI (flr q n k))
  have e1 := fil_0 R 0 (fun k => nI (rmn q n k))
  conv => enter [9]; rw [← e0]
  conv => enter [10]; rw [← e1]
  refine A (c := 0) (by omega) (A (c := 1) (by omega) (A (c := 2) (by omega) (A (c := 3) (by omega) (A (c := 4) (by omega) ?_))))
  refine ⟨fun _ => ?_, fun h => absurd (by decide) h⟩
  have em : p1 - nI (flr q n 0) - nI (flr q n 1) - nI (flr q n 2) - nI (flr q n 3) - nI (flr q n 4) = nI (mis q n) := by
    rw [hp1]
    conv => lhs; enter [1, 1, 1, 1, 1]; rw [flr_mis h0]
    exact nI_chain
  rw [em]
  refine ⟨mis q n + 1, ?_⟩
  have ef : fil P (J * 5) (4 + 1) (fun k => nI (flr q n k)) = fil P (J * 5) 5 (shv q n 0) := fil_congr (fun j hj => by
    show nI (flr q n j) = nI (flr q n j + (if false = true then 1 else 0))
    simp)
  have er : fil R 0 (4 + 1) (fun k => nI (rmn q n k)) = fil R 0 5 (rmv (rmn q n) 0) := fil_congr (fun j hj => by
    show nI (rmn q n j) = (if false = true then -1 else nI (rmn q n j))
    simp)
  rw [ef, er]
  refine tk108_o5 hp2 hJ hb h0 rfl ?_ (mis q n) 0 (by omega)
  refine ⟨6, ?_⟩
  have B := fun {fu c : Nat} {kk} (hc : c < 5) => tk154_o5 (p0 := p0) (p2 := p2) (P := fil P (J * 5) 5 (shv q n (mis q n))) (F := fil P (J * 5) 5 (shv q n (mis q n))) (q := q) (s := shr q n) (I := I) (J := J) (fu := fu) (kk := kk) hp0 hp2 (fun k hk => by rw [fil_out (by omega)]; exact hq k hk) (fun k hk => by rw [fil_in hk]; rfl) (fun _ _ => rfl) (fun k _ => shr_q h0 hn k) hI hJ hd hc
  have e2 := fil_0 (fil P (J * 5) 5 (shv q n (mis q n))) (I * 5) (fun k => nI (q k - shr q n k))
  conv => enter [6]; rw [← e2]
  refine B (c := 0) (by omega) (B (c := 1) (by omega) (B (c := 2) (by omega) (B (c := 3) (by omega) (B (c := 4) (by omega) ?_))))
  exact ⟨fun _ => hp _, fun h => absurd (by decide) h⟩

theorem tk16_o8 {p0 p1 p2 u1 : Int32} {P F R : XRow} {q : Nat → Nat} {I J n fu : Nat} {kk : Int32 → Int32 → XRow → XRow → Prop} (hp0 : p0 = nI I) (hp1 : p1 = nI n) (hp2 : p2 = nI J) (hu : u1 = nI (s5 q)) (hq : ∀ k, k < 5 → P (I * 5 + k) = nI (q k)) (hI : I * 5 + 4 < 50) (hJ : J * 12 + 4 < 720) (hb : s5 q < 2 ^ 31) (hn : n < 2 ^ 31) (h0 : 0 < s5 q ∨ n = 0) {c : Nat} (hc : c < 5) {v : Int32}
    (hk : wp_X4_takeShare_o8_L16 P p0 p1 p2 u1 kk fu (nI (c + 1)) (v - nI (flr q n c)) (fil F (J * 12) (c + 1) (fun k => nI (flr q n k))) (fil R 0 (c + 1) (fun k => nI (rmn q n k)))) :
    wp_X4_takeShare_o8_L16 P p0 p1 p2 u1 kk (fu + 1) (nI c) v (fil F (J * 12) c (fun k => nI (flr q n k))) (fil R 0 c (fun k => nI (rmn q n k))) := by
  subst hp0 hp1 hp2 hu
  have hqc := s5_ge q c hc
  refine ⟨fun h => absurd h (nI_ge (a := c) (b := 5) hc (by omega)), fun _ => tb_get (W := 5) (I := I) (J := c) rfl rfl rfl (by omega) (by omega) ?_⟩
  intro x7 hx7
  have e7 : x7 = lN (q c * n) := by
    rw [hx7, hq c hc, nI_l (by omega), nI_l hn, lN_mul]
  subst e7
  have hm := mul_62 (a := q c) (b := n) (by omega) hn
  have eR : ∀ x, x = nI (rmn q n c) → upd (fil R 0 c (fun k => nI (rmn q n k))) (0 * 5 + c) x = fil R 0 (c + 1) (fun k => nI (rmn q n k)) := by
    intro x hx
    subst hx
    have := fil_s R 0 c (fun k => nI (rmn q n k))
    rw [show 0 * 5 + c = 0 + c by omega]
    exact this
  have eF : ∀ x, x = nI (flr q n c) → upd (fil F (J * 12) c (fun k => nI (flr q n k))) (J * 12 + c) x = fil F (J * 12) (c + 1) (fun k => nI (flr q n k)) := by
    intro x hx
    subst hx
    exact fil_s F (J * 12) c (fun k => nI (flr q n k))
  rcases Nat.eq_zero_or_pos (s5 q) with hz | hz
  · have hle : nI (s5 q) ≤ 0 := by rw [hz]; decide
    have hn0 : n = 0 := by omega
    have ef : flr q n c = 0 := by show q c * n / s5 q = 0; rw [hz, Nat.div_zero]
    have er : rmn q n c = 0 := by show q c * n % s5 q = 0; rw [hn0, Nat.mul_zero, Nat.zero_mod]
    refine ⟨fun _ => ⟨fun _ => ?_, fun h => absurd hle h⟩, fun h => absurd hle h⟩
    refine tb_put (W := 5) (I := 0) (J := c) rfl rfl rfl (by omega) (by omega) ?_
    rw [eR 0 (by rw [er]; rfl)]
    refine tb_put (W := 12) (I := J) (J := c) rfl rfl rfl (by omega) (by omega) ?_
    rw [eF 0 (by rw [ef]; rfl)]
    intro x hx y hy
    rw [ef] at hk
    have e1 : nI c + 1 = nI (c + 1) := nI_1 c
    rw [hx, hy, e1]
    exact hk
  · have hle : ¬ nI (s5 q) ≤ 0 := nI_nle hz hb
    have hne : ¬ (nI (s5 q)).toInt64 = 0 := by
      rw [nI_l hb]
      intro h
      have := (lN_eq (a := s5 q) (b := 0) hb (by omega)).mp h
      omega
    refine ⟨fun h => absurd h hle, fun _ => ⟨hne, ?_⟩⟩
    intro x16 hx16
    have e16 : x16 = nI (flr q n c) := by
      rw [hx16, nI_l hb, pk_lDiv hm hz (by omega), lN_i]
      rfl
    subst e16
    refine ⟨fun h => absurd h hle, fun _ => ⟨hne, ?_⟩⟩
    refine tb_put (W := 5) (I := 0) (J := c) rfl rfl rfl (by omega) (by omega) ?_
    rw [eR _ (by rw [nI_l hb, pk_lRem hm hz (by omega), lN_i]; rfl)]
    refine tb_put (W := 12) (I := J) (J := c) rfl rfl rfl (by omega) (by omega) ?_
    rw [eF _ rfl]
    intro x hx y hy
    have e1 : nI c + 1 = nI (c + 1) := nI_1 c
    rw [hx, hy, e1]
    exact hk
theorem tk108_o8 {p2 v26 : Int32} {F R : XRow} {q : Nat → Nat} {J n : Nat} {kk : Int32 → XRow → XRow → Prop} (hp2 : p2 = nI J) (hJ : J * 12 + 4 < 720) (hb : s5 q < 2 ^ 31) (h0 : 0 < s5 q ∨ n = 0) (hv : v26 = nI (mis q n))
    (hk : kk (nI (mis q n)) (fil F (J * 12) 5 (shv q n (mis q n))) (fil R 0 5 (rmv (rmn q n) (mis q n)))) :
    ∀ d t, t + d = mis q n → wp_X4_takeShare_o8_L108 p2 v26 kk (d + 1) (nI t) (fil F (J * 12) 5 (shv q n t)) (fil R 0 5 (rmv (rmn q n) t))
  | 0, t, h => by
    subst hv hp2
    have : t = mis q n := by omega
    subst this
    exact ⟨fun _ => hk, fun h => absurd (nI_le (Nat.le_refl _) (by have := mis_4 h0; omega)) h⟩
  | d + 1, t, h => by
    have ih := tk108_o8 (p2 := p2) (F := F) (R := R) (kk := kk) hp2 hJ hb h0 hv hk d (t + 1) (by omega)
    subst hv hp2
    have h4 := mis_4 h0
    have hp := pck_le (rmn q n) (usd (rmn q n) t)
    refine ⟨fun h9 => absurd h9 (nI_ge (by omega) (by omega)), fun _ => ?_⟩
    refine tb_cog (I := 0) (R := rmk (rmn q n) (usd (rmn q n) t)) rfl (by omega) (by omega) (fun k hk => ?_) ?_
    · rw [show 0 * 5 + k = 0 + k by omega, fil_in hk]
      exact rmv_toInt (rmn_31 h0 hb)
    · show wp_X6_add 12 720 _ (nI J) (nI (pck (rmn q n) (usd (rmn q n) t))) 1 _
      refine tb_add (W := 12) (I := J) (J := pck (rmn q n) (usd (rmn q n) t)) rfl rfl rfl (by omega) (by omega) ?_
      rw [fil_in (by omega), fil_upd _ _ _ _ (by omega)]
      refine tb_put (W := 5) (I := 0) (J := pck (rmn q n) (usd (rmn q n) t)) rfl rfl rfl (by omega) (by omega) ?_
      rw [show 0 * 5 + pck (rmn q n) (usd (rmn q n) t) = 0 + pck (rmn q n) (usd (rmn q n) t) by omega, fil_upd _ _ _ _ (by omega)]
      intro x hx
      have e1 : nI t + 1 = nI (t + 1) := nI_1 t
      rw [hx, e1]
      have ea : fil F (J * 12) 5 (fun j => if j = pck (rmn q n) (usd (rmn q n) t) then shv q n t (pck (rmn q n) (usd (rmn q n) t)) + 1 else shv q n t j) = fil F (J * 12) 5 (shv q n (t + 1)) :=
        fil_congr (fun j hj => by
          rw [← shv_up (by omega) j]
          by_cases hjp : j = pck (rmn q n) (usd (rmn q n) t)
          · rw [if_pos hjp, if_pos hjp, ← hjp]
          · rw [if_neg hjp, if_neg hjp])
      have eb : fil R 0 5 (fun j => if j = pck (rmn q n) (usd (rmn q n) t) then -1 else rmv (rmn q n) t j) = fil R 0 5 (rmv (rmn q n) (t + 1)) :=
        fil_congr (fun j hj => rmv_up j)
      rw [ea, eb]
      exact ih
theorem tk154_o8 {p0 p2 : Int32} {P F : XRow} {q s : Nat → Nat} {I J fu : Nat} {kk : Int32 → XRow → Prop} (hp0 : p0 = nI I) (hp2 : p2 = nI J) (hq : ∀ k, k < 5 → P (I * 5 + k) = nI (q k)) (hs : ∀ k, k < 5 → F (J * 12 + k) = nI (s k)) (hle : ∀ k, k < 5 → s k ≤ q k) (hI : I * 5 + 4 < 50) (hJ : J * 12 + 4 < 720) {c : Nat} (hc : c < 5)
    (hk : wp_X4_takeShare_o8_L154 p0 p2 F kk fu (nI (c + 1)) (fil P (I * 5) (c + 1) (fun k => nI (q k - s k)))) :
    wp_X4_takeShare_o8_L154 p0 p2 F kk (fu + 1) (nI c) (fil P (I * 5) c (fun k => nI (q k - s k))) := by
  subst hp0 hp2
  refine ⟨fun h => absurd h (nI_ge (a := c) (b := 5) hc (by omega)), fun _ => tb_get (W := 12) (I := J) (J := c) rfl rfl rfl (by omega) (by omega) ?_⟩
  refine tb_add (W := 5) (I := I) (J := c) rfl rfl rfl (by omega) (by omega) ?_
  have e : fil P (I * 5) c (fun k => nI (q k - s k)) (I * 5 + c) + -F (J * 12 + c) = nI (q c - s c) := by
    rw [fil_out (by omega), hq c hc, hs c hc, ← Int32.sub_eq_add_neg, pk_sub (hle c hc)]
  rw [e, fil_s P (I * 5) c (fun k => nI (q k - s k))]
  intro x hx
  have e1 : nI c + 1 = nI (c + 1) := nI_1 c
  rw [hx, e1]
  exact hk

/-- out of a place into a bale -/
theorem tb_take8 {p0 p1 p2 : Int32} {P N R : XRow} {q : Nat → Nat} {I J n : Nat} {post : (XRow × XRow × XRow) → Prop} (hp0 : p0 = nI I) (hp1 : p1 = nI n) (hp2 : p2 = nI J) (hq : ∀ k, k < 5 → P (I * 5 + k) = nI (q k)) (hI : I * 5 + 4 < 50) (hJ : J * 12 + 4 < 720) (hb : s5 q < 2 ^ 31) (hn : n ≤ s5 q)
    (hp : ∀ R', post (fil P (I * 5) 5 (fun k => nI (q k - shr q n k)), fil N (J * 12) 5 (fun k => nI (shr q n k)), R')) : wp_X4_takeShare_o8 P N R p0 p1 p2 post := by
  have h0 : 0 < s5 q ∨ n = 0 := by omega
  refine tb_sum hp0 hI (by omega) ?_
  rw [i5_nI hq]
  have A := fun {v : Int32} {fu c : Nat} {kk} (hc : c < 5) => tk16_o8 (p0 := p0) (p1 := p1) (p2 := p2) (P := P) (F := N) (R := R) (q := q) (I := I) (J := J) (n := n) (u1 := nI (s5 q)) (v := v) (fu := fu) (kk := kk) hp0 hp1 hp2 rfl hq hI hJ hb (by omega) h0 hc
  refine ⟨6, ?_⟩
  have e0 := fil_0 N (J * 12) (fun k => nI (flr q n k))
  have e1 := fil_0 R 0 (fun k => nI (rmn q n k))
  conv => enter [10]; rw [← e0]
  conv => enter [11]; rw [← e1]
  refine A (c := 0) (by omega) (A (c := 1) (by omega) (A (c := 2) (by omega) (A (c := 3) (by omega) (A (c := 4) (by omega) ?_))))
  refine ⟨fun _ => ?_, fun h => absurd (by decide) h⟩
  have em : p1 - nI (flr q n 0) - nI (flr q n 1) - nI (flr q n 2) - nI (flr q n 3) - nI (flr q n 4) = nI (mis q n) := by
    rw [hp1]
    conv => lhs; enter [1, 1, 1, 1, 1]; rw [flr_mis h0]
    exact nI_chain
  rw [em]
  refine ⟨mis q n + 1, ?_⟩
  have ef : fil N (J * 12) (4 + 1) (fun k => nI (flr q n k)) = fil N (J * 12) 5 (shv q n 0) := fil_congr (fun j hj => by
    show nI (flr q n j) = nI (flr q n j + (if false = true then 1 else 0))
    simp)
  have er : fil R 0 (4 + 1) (fun k => nI (rmn q n k)) = fil R 0 5 (rmv (rmn q n) 0) := fil_congr (fun j hj => by
    show nI (rmn q n j) = (if false = true then -1 else nI (rmn q n j))
    simp)
  rw [ef, er]
  refine tk108_o8 hp2 hJ hb h0 rfl ?_ (mis q n) 0 (by omega)
  refine ⟨6, ?_⟩
  have B := fun {fu c : Nat} {kk} (hc : c < 5) => tk154_o8 (p0 := p0) (p2 := p2) (P := P) (F := fil N (J * 12) 5 (shv q n (mis q n))) (q := q) (s := shr q n) (I := I) (J := J) (fu := fu) (kk := kk) hp0 hp2 hq (fun k hk => by rw [fil_in hk]; rfl) (fun k _ => shr_q h0 hn k) hI hJ hc
  have e2 := fil_0 P (I * 5) (fun k => nI (q k - shr q n k))
  conv => enter [7]; rw [← e2]
  refine B (c := 0) (by omega) (B (c := 1) (by omega) (B (c := 2) (by omega) (B (c := 3) (by omega) (B (c := 4) (by omega) ?_))))
  exact ⟨fun _ => hp _, fun h => absurd (by decide) h⟩
