/-! ===== level 2: texts of commands ===== -/
def pkc (t : XRow) (n p : Nat) : Int32 := if p < n then t p else -1
def dgB (x : Int32) : Bool := wi x 48 57
def dgV (x : Int32) : Nat := cn x - 48
def nuR (t : XRow) (n : Nat) : Nat → Nat → Nat → Nat × Nat | 0, p, v => (v, p) | l + 1, p, v => bif dgB (pkc t n p) then nuR t n l (p + 1) (10 * v + dgV (pkc t n p)) else (v, p)
theorem dg_ok {x : Int32} (h : dgB x = true) : ∃ q, q ≤ 9 ∧ x = nI (48 + q) ∧ dgV x = q := by
  obtain ⟨k, h1, h2, rfl⟩ := wi_ok (a := 48) (b := 57) rfl rfl (by omega) (by omega) h
  refine ⟨k - 48, by omega, by congr 1; omega, ?_⟩
  unfold dgV
  rw [cn_nI (by omega)]
theorem dg_in {t : XRow} {n p : Nat} (h : dgB (pkc t n p) = true) : p < n := by
  unfold pkc at h
  by_cases hp : p < n
  · exact hp
  · rw [if_neg hp] at h; exact Bool.noConfusion (h.symm.trans (show dgB (-1) = false by decide))
theorem nuR_ok (t : XRow) (n : Nat) : ∀ (l p v M : Nat), v + 1 ≤ M → p ≤ n → (nuR t n l p v).1 + 1 ≤ M * 10 ^ l ∧ p ≤ (nuR t n l p v).2 ∧ (nuR t n l p v).2 ≤ n
  | 0, p, v, M, h, hp => ⟨by rw [Nat.pow_zero, Nat.mul_one]; exact h, Nat.le_refl _, hp⟩
  | l + 1, p, v, M, h, hp => by
    have e : nuR t n (l + 1) p v = bif dgB (pkc t n p) then nuR t n l (p + 1) (10 * v + dgV (pkc t n p)) else (v, p) := rfl
    have hM : M ≤ M * 10 ^ (l + 1) := Nat.le_mul_of_pos_right M (Nat.pow_pos (by omega))
    cases hd : dgB (pkc t n p) with
    | false => rw [hd] at e; rw [e]; exact ⟨Nat.le_trans h hM, Nat.le_refl _, hp⟩
    | true =>
      replace e : nuR t n (l + 1) p v = nuR t n l (p + 1) (10 * v + dgV (pkc t n p)) := by rw [e, hd]; rfl
      rw [e]
      obtain ⟨q, q1, q2, q3⟩ := dg_ok hd
      obtain ⟨i1, i2, i3⟩ := nuR_ok t n l (p + 1) (10 * v + dgV (pkc t n p)) (10 * M) (by rw [q3]; omega) (dg_in hd)
      refine ⟨?_, by omega, i3⟩
      rw [Nat.pow_succ, Nat.mul_comm (10 ^ l), ← Nat.mul_assoc, Nat.mul_comm M]
      exact i1
theorem nuR_4 (t : XRow) {n p l : Nat} (hl : l ≤ 4) (hp : p ≤ n) : (nuR t n l p 0).1 ≤ 9999 ∧ p ≤ (nuR t n l p 0).2 ∧ (nuR t n l p 0).2 ≤ n := by
  obtain ⟨h1, h2, h3⟩ := nuR_ok t n l p 0 1 (Nat.le_refl _) hp
  have : 10 ^ l ≤ 10 ^ 4 := Nat.pow_le_pow_right (by omega) hl
  exact ⟨by omega, h2, h3⟩
theorem nuR_1 (t : XRow) {n p l : Nat} (hd : dgB (pkc t n p) = true) (hl : 1 ≤ l) (hp : p ≤ n) : p + 1 ≤ (nuR t n l p 0).2 := by
  obtain ⟨l', rfl⟩ : ∃ l', l = l' + 1 := ⟨l - 1, by omega⟩
  have e : nuR t n (l' + 1) p 0 = nuR t n l' (p + 1) (10 * 0 + dgV (pkc t n p)) := by
    show (bif dgB (pkc t n p) then _ else _) = _
    rw [hd]; rfl
  rw [e]
  exact (nuR_ok t n l' (p + 1) _ (10 * 0 + dgV (pkc t n p) + 1) (Nat.le_refl _) (dg_in hd)).2.1
section TX
variable {t u : XRow} {n p : Nat}
theorem tc_peek {post : Int32 → Prop} (hn : n ≤ 80) (hp : p ≤ 200) (h : post (pkc t n p)) : wp_X7_peek t (nI n) (nI p) post := by
  unfold pkc at h
  refine if_n (nI_pos (by omega)) (pk_le n p (fun h1 => ?_) (fun h1 => ?_))
  · rw [if_neg (by omega)] at h; exact h
  · rw [if_pos h1] at h
    refine if_n (nI_ge (a := p) (b := 80) (by omega) (by omega)) ⟨vp_in_nI (by omega) (by omega), ?_⟩
    rw [nI_clamp (by omega)]; exact h
theorem tm_here {post : Int32 → Prop} (hu : ∀ j, j < n → u j = t j) (hn : n ≤ 80) (hp : p ≤ 200) (h : post (pkc t n p)) : wp_X9_here u (nI n) (nI p) post := by
  unfold pkc at h
  refine pk_le n p (fun h1 => ?_) (fun h1 => ?_)
  · rw [if_neg (by omega)] at h; exact h
  · rw [if_pos h1] at h
    refine ⟨vp_in_nI (by omega) (by omega), ?_⟩
    rw [nI_clamp (by omega), hu p h1]; exact h
theorem tc_takes {c : Int32} {post : Bool × Int32 → Prop} (hn : n ≤ 80) (hp : p ≤ 200) (h1 : pkc t n p = c → post (true, nI (p + 1))) (h2 : ¬ pkc t n p = c → post (false, nI p)) : wp_X7_takes t (nI n) (nI p) c post := by
  refine tc_peek hn hp ⟨fun h x hx => ?_, fun h => h2 h⟩
  have e1 : nI p + 1 = nI (p + 1) := nI_1 p
  rw [hx, e1]; exact h1 h
theorem tm_skips {c : Int32} {post : Bool × Int32 → Prop} (hu : ∀ j, j < n → u j = t j) (hn : n ≤ 80) (hp : p ≤ 200) (h1 : pkc t n p = c → post (true, nI (p + 1))) (h2 : ¬ pkc t n p = c → post (false, nI p)) : wp_X9_skips u (nI n) (nI p) c post := by
  refine tm_here hu hn hp ⟨fun h x hx => ?_, fun h x hx => ?_⟩
  · have e1 : nI p + 1 = nI (p + 1) := nI_1 p
    rw [hx, e1]; exact h1 h
  · rw [hx, Int32.add_zero]; exact h2 h
theorem pk_in2 {c : Int32} (hc : ¬ (-1 : Int32) = c) (h : pkc t n p = c) : p < n := by
  unfold pkc at h
  by_cases hp : p < n
  · exact hp
  · rw [if_neg hp] at h; exact absurd h hc
theorem dstep {x : Int32} {v : Nat} (h : dgB x = true) : nI v * 10 + x - 48 = nI (10 * v + dgV x) ∧ 10 * nI v + x - 48 = nI (10 * v + dgV x) := by
  obtain ⟨q, q1, q2, q3⟩ := dg_ok h
  rw [q3, q2]
  constructor
  · rw [show (10 : Int32) = nI 10 from rfl, show (48 : Int32) = nI 48 from rfl, pk_mul, nI_add, pk_sub (by omega)]
    congr 1; omega
  · rw [show (10 : Int32) = nI 10 from rfl, show (48 : Int32) = nI 48 from rfl, pk_mul, nI_add, pk_sub (by omega)]
    congr 1; omega
theorem tc_numgo {kk : Int32 → Int32 → Int32 → Prop} {mx : Nat} (hn : n ≤ 80) (hmx : mx ≤ 4) : ∀ (l k p v : Nat), k + l = mx → 1 ≤ k → v + 1 ≤ 10 ^ k → p ≤ n → (∀ i, kk i (nI (nuR t n l p v).1) (nI (nuR t n l p v).2)) → wp_X7_parseNumber_L4 t (nI n) (nI mx) kk (l + 1) (nI k) (nI v) (nI p)
  | 0, k, p, v, hk, h1, hv, hp, h => by
    obtain rfl : k = mx := by omega
    exact if_y (nI_le (Nat.le_refl _) (by omega)) (h _)
  | l + 1, k, p, v, hk, h1, hv, hp, h => by
    have e : nuR t n (l + 1) p v = bif dgB (pkc t n p) then nuR t n l (p + 1) (10 * v + dgV (pkc t n p)) else (v, p) := rfl
    have hv4 : v + 1 ≤ 10 ^ 4 := Nat.le_trans hv (Nat.pow_le_pow_right (by omega) (by omega))
    refine if_n (nI_ge (by omega) (by omega)) (tc_peek hn (by omega) (tw_wi ?_))
    show (dgB (pkc t n p) = true → _) ∧ (dgB (pkc t n p) = false → _)
    cases hd : dgB (pkc t n p) with
    | false =>
      rw [hd] at e; rw [e] at h
      exact bb_f rfl (h _)
    | true =>
      rw [hd] at e; rw [e] at h
      obtain ⟨q, q1, q2, q3⟩ := dg_ok hd
      refine bb_t rfl (tc_peek hn (by omega) (fun x hx y hy z hz => ?_))
      have e1 : nI p + 1 = nI (p + 1) := nI_1 p
      have e2 : nI k + 1 = nI (k + 1) := nI_1 k
      rw [show (0 : Int32) = nI 0 from rfl, xMax_nI (by omega) (by omega), Nat.max_eq_right (Nat.zero_le _), (dstep hd).1] at hx
      rw [hx, hy, hz, e1, e2]
      exact tc_numgo hn hmx l (k + 1) (p + 1) (10 * v + dgV (pkc t n p)) (by omega) (by omega) (by rw [q3, Nat.pow_succ]; omega) (dg_in hd) h
theorem tc_num {post : Int32 × Int32 → Prop} {mx : Nat} (hn : n ≤ 80) (hmx : mx ≤ 4) (hm1 : 1 ≤ mx) (hp : p ≤ n) (h0 : dgB (pkc t n p) = false → post (-1, nI p)) (h1 : dgB (pkc t n p) = true → post (nI (nuR t n mx p 0).1, nI (nuR t n mx p 0).2)) : wp_X7_parseNumber t (nI n) (nI p) (nI mx) post := by
  refine ⟨mx + 1, ?_⟩
  obtain ⟨l, rfl⟩ : ∃ l, mx = l + 1 := ⟨mx - 1, by omega⟩
  have e : nuR t n (l + 1) p 0 = bif dgB (pkc t n p) then nuR t n l (p + 1) (10 * 0 + dgV (pkc t n p)) else (0, p) := rfl
  refine if_n (nI_nle (by omega) (by omega)) (tc_peek hn (by omega) (tw_wi ?_))
  show (dgB (pkc t n p) = true → _) ∧ (dgB (pkc t n p) = false → _)
  cases hd : dgB (pkc t n p) with
  | false => exact bb_f rfl (h0 hd)
  | true =>
    rw [hd] at e
    replace e : nuR t n (l + 1) p 0 = nuR t n l (p + 1) (10 * 0 + dgV (pkc t n p)) := e
    have h2 := h1 hd
    rw [e] at h2
    obtain ⟨q, q1, q2, q3⟩ := dg_ok hd
    refine bb_t rfl (tc_peek hn (by omega) (fun x hx y hy z hz => ?_))
    have e1 : nI p + 1 = nI (p + 1) := nI_1 p
    have hx2 : x = nI (10 * 0 + dgV (pkc t n p)) := by
      rw [hx]
      exact (dstep (v := 0) hd).1
    rw [hx2, hy, hz, e1]
    exact tc_numgo hn hmx l 1 (p + 1) (10 * 0 + dgV (pkc t n p)) (by omega) (Nat.le_refl _) (by rw [q3]; omega) (dg_in hd) (fun _ => h2)
theorem tm_numgo {kk : Int32 → Int32 → Int32 → Prop} {mx : Nat} (hu : ∀ j, j < n → u j = t j) (hn : n ≤ 80) (hmx : mx ≤ 4) : ∀ (l k p v : Nat), k + l = mx → p ≤ n → (∀ i, kk i (nI (nuR t n l p v).2) (nI (nuR t n l p v).1)) → wp_X9_numberHere_L23 u (nI n) (nI mx) kk (l + 1) (nI k) (nI p) (nI v)
  | 0, k, p, v, hk, hp, h => by
    obtain rfl : k = mx := by omega
    exact if_y (nI_le (Nat.le_refl _) (by omega)) (h _)
  | l + 1, k, p, v, hk, hp, h => by
    have e : nuR t n (l + 1) p v = bif dgB (pkc t n p) then nuR t n l (p + 1) (10 * v + dgV (pkc t n p)) else (v, p) := rfl
    refine if_n (nI_ge (by omega) (by omega)) (tm_here hu hn (by omega) (tw_in ?_))
    show (dgB (pkc t n p) = true → _) ∧ (dgB (pkc t n p) = false → _)
    cases hd : dgB (pkc t n p) with
    | false =>
      rw [hd] at e; rw [e] at h
      exact bb_f rfl (h _)
    | true =>
      rw [hd] at e; rw [e] at h
      refine bb_t rfl (tm_here hu hn (by omega) (fun x hx y hy z hz => ?_))
      have e1 : nI p + 1 = nI (p + 1) := nI_1 p
      have e2 : nI k + 1 = nI (k + 1) := nI_1 k
      rw [(dstep hd).2] at hx
      rw [hx, hy, hz, e1, e2]
      exact tm_numgo hu hn hmx l (k + 1) (p + 1) (10 * v + dgV (pkc t n p)) (by omega) (dg_in hd) h
theorem tm_puts {told : XRow} {num : Int32} {P mx : Nat} {p0 : Int32} {post : Bool × Int32 × Int32 × XRow → Prop} (hu : ∀ j, j < n → u j = t j) (hn : n ≤ 80) (hmx : mx ≤ 4) (hp : p ≤ n) (h9 : p0 = nI P) (hP : P < 200) (h0 : dgB (pkc t n p) = false → ∀ x y, post (false, nI p, x, upd told P y)) (h1 : dgB (pkc t n p) = true → post (true, nI (nuR t n mx p 0).2, nI (nuR t n mx p 0).1, upd told P (nI (nuR t n mx p 0).1))) : wp_X9_puts u told (nI n) (nI p) num p0 (nI mx) post := by
  subst h9
  unfold wp_X9_puts wp_X9_numberHere
  refine tm_here (p := p) hu hn (by omega) (tw_in ?_)
  show (dgB (pkc t n p) = true → _) ∧ (dgB (pkc t n p) = false → _)
  have ec : (nI P).toNatClampNeg = P := nI_clamp (by omega)
  cases hd : dgB (pkc t n p) with
  | false =>
    refine bb_f rfl ⟨vp_in_nI hP (by omega), ?_⟩
    rw [ec]; exact h0 hd _ _
  | true =>
    refine bb_t rfl ⟨mx + 1, tm_numgo hu hn hmx mx 0 p 0 (by omega) hp (fun _ => ⟨vp_in_nI hP (by omega), ?_⟩)⟩
    rw [ec]; exact h1 hd
/-! one command: whether it is right, where it ends, its numbers -/
def cF (t : XRow) (n p : Nat) : Bool × Nat × (Nat → Int32) :=
  let k := pkc t n p
  if k = 114 ∨ k = 115 then
    (bif dgB (pkc t n (p + 1)) then (true, (nuR t n 4 (p + 1) 0).2, v5 k (nI (nuR t n 4 (p + 1) 0).1) 0 0 0) else (false, p + 1, fun _ => 0))
  else if k = 102 ∨ k = 99 then
    (bif dgB (pkc t n (p + 1)) then
      (let p1 := (nuR t n 1 (p + 1) 0).2
       let a := nI (nuR t n 1 (p + 1) 0).1
       if pkc t n p1 = (if k = 102 then 61 else 64) then
        (bif dgB (pkc t n (p1 + 1)) then
          (let p2 := (nuR t n 4 (p1 + 1) 0).2
           let e := nI (nuR t n 4 (p1 + 1) 0).1
           if k = 102 then (true, p2, v5 k a e 0 0)
           else if pkc t n p2 = 42 then
            (bif dgB (pkc t n (p2 + 1)) then
              (let p3 := (nuR t n 4 (p2 + 1) 0).2
               let f := nI (nuR t n 4 (p2 + 1) 0).1
               if pkc t n p3 = 36 then
                (bif dgB (pkc t n (p3 + 1)) then (true, (nuR t n 4 (p3 + 1) 0).2, v5 k a e f (nI (nuR t n 4 (p3 + 1) 0).1)) else (false, p3 + 1, fun _ => 0))
               else (false, p3, fun _ => 0))
             else (false, p2 + 1, fun _ => 0))
           else (false, p2, fun _ => 0))
         else (false, p1 + 1, fun _ => 0))
       else (false, p1, fun _ => 0))
     else (false, p + 1, fun _ => 0))
  else (false, p, fun _ => 0)
/-- how many of the numbers of a command count -/
def arN (k : Int32) : Nat := if k = 99 then 5 else if k = 102 then 3 else 2
end TX
