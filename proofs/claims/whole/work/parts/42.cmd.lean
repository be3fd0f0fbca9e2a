/-! ===== level 2: one command of a text ===== -/
/-- what follows the sign, of the reference -/
def cmB (mtext mtold : XRow) (mlength mnumber x1 u2 x3 x4 : Int32) (post : (Bool × Int32 × Int32 × Int32 × XRow) → Prop) : Prop := (u2 = 114 → (wp_X9_puts mtext (upd mtold (x1).toNatClampNeg u2) mlength x3 mnumber (x1 + 1) 4 (fun u5 : Bool × Int32 × Int32 × XRow => post (u5.1, u5.2.1, u5.2.2.1, x4, u5.2.2.2)))) ∧ (¬ u2 = 114 → ((u2 = 115 → (wp_X9_puts mtext (upd mtold (x1).toNatClampNeg u2) mlength x3 mnumber (x1 + 1) 4 (fun u19 : Bool × Int32 × Int32 × XRow => post (u19.1, u19.2.1, u19.2.2.1, x4, u19.2.2.2)))) ∧ (¬ u2 = 115 → (wp_X9_puts mtext (upd mtold (x1).toNatClampNeg u2) mlength x3 mnumber (x1 + 1) 1 (fun u6 : Bool × Int32 × Int32 × XRow => (u6.1 = true → ((u2 = 102 → (wp_X9_skips mtext mlength u6.2.1 61 (fun u13 : Bool × Int32 => (u13.1 = true → (wp_X9_puts mtext u6.2.2.2 mlength u13.2 u6.2.2.1 (x1 + 2) 4 (fun u14 : Bool × Int32 × Int32 × XRow => (u14.1 = true → ((u2 = 102 → (post (true, u14.2.1, u14.2.2.1, x4, u14.2.2.2))) ∧ (¬ u2 = 102 → (wp_X9_skips mtext mlength u14.2.1 42 (fun u15 : Bool × Int32 => (u15.1 = true → (wp_X9_puts mtext u14.2.2.2 mlength u15.2 u14.2.2.1 (x1 + 3) 4 (fun u16 : Bool × Int32 × Int32 × XRow => (u16.1 = true → (wp_X9_skips mtext mlength u16.2.1 36 (fun u17 : Bool × Int32 => (u17.1 = true → (wp_X9_puts mtext u16.2.2.2 mlength u17.2 u16.2.2.1 (x1 + 4) 4 (fun u18 : Bool × Int32 × Int32 × XRow => (u18.1 = true → (post (true, u18.2.1, u18.2.2.1, x4, u18.2.2.2))) ∧ (u18.1 = false → (post (false, u18.2.1, u18.2.2.1, x4, u18.2.2.2)))))) ∧ (u17.1 = false → (post (false, u17.2, u16.2.2.1, x4, u16.2.2.2)))))) ∧ (u16.1 = false → (post (false, u16.2.1, u16.2.2.1, x4, u16.2.2.2)))))) ∧ (u15.1 = false → (post (false, u15.2, u14.2.2.1, x4, u14.2.2.2)))))))) ∧ (u14.1 = false → (post (false, u14.2.1, u14.2.2.1, x4, u14.2.2.2)))))) ∧ (u13.1 = false → (post (false, u13.2, u6.2.2.1, x4, u6.2.2.2)))))) ∧ (¬ u2 = 102 → (wp_X9_skips mtext mlength u6.2.1 64 (fun u7 : Bool × Int32 => (u7.1 = true → (wp_X9_puts mtext u6.2.2.2 mlength u7.2 u6.2.2.1 (x1 + 2) 4 (fun u8 : Bool × Int32 × Int32 × XRow => (u8.1 = true → ((u2 = 102 → (post (true, u8.2.1, u8.2.2.1, x4, u8.2.2.2))) ∧ (¬ u2 = 102 → (wp_X9_skips mtext mlength u8.2.1 42 (fun u9 : Bool × Int32 => (u9.1 = true → (wp_X9_puts mtext u8.2.2.2 mlength u9.2 u8.2.2.1 (x1 + 3) 4 (fun u10 : Bool × Int32 × Int32 × XRow => (u10.1 = true → (wp_X9_skips mtext mlength u10.2.1 36 (fun u11 : Bool × Int32 => (u11.1 = true → (wp_X9_puts mtext u10.2.2.2 mlength u11.2 u10.2.2.1 (x1 + 4) 4 (fun u12 : Bool × Int32 × Int32 × XRow => (u12.1 = true → (post (true, u12.2.1, u12.2.2.1, x4, u12.2.2.2))) ∧ (u12.1 = false → (post (false, u12.2.1, u12.2.2.1, x4, u12.2.2.2)))))) ∧ (u11.1 = false → (post (false, u11.2, u10.2.2.1, x4, u10.2.2.2)))))) ∧ (u10.1 = false → (post (false, u10.2.1, u10.2.2.1, x4, u10.2.2.2)))))) ∧ (u9.1 = false → (post (false, u9.2, u8.2.2.1, x4, u8.2.2.2)))))))) ∧ (u8.1 = false → (post (false, u8.2.1, u8.2.2.1, x4, u8.2.2.2)))))) ∧ (u7.1 = false → (post (false, u7.2, u6.2.2.1, x4, u6.2.2.2)))))))) ∧ (u6.1 = false → (post (false, u6.2.1, u6.2.2.1, x4, u6.2.2.2))))))))
theorem u_at {f : XRow} {i j : Nat} {x : Int32} (h : j = i) : upd f i x j = x := by subst h; exact pk_us
section CM
variable {t u : XRow} {n p : Nat}
theorem st_num {w : Fin 4} {ka kb kc : Int32 → Int32 → Int32 → XRow → Prop} {i k q fu mx : Nat} {T : XRow} (hn : n ≤ 80) (hp : p ≤ n) (hq : q ≤ 26) (hk : k ≤ 3) (hl : ¬ xLen w ≤ nI i) (hv : vp_in (nI i) (xTl.getD w.val 0)) (hc : (xChr w (nI i) = 100 ∧ mx = 1) ∨ (xChr w (nI i) = 110 ∧ mx = 4)) (h0 : dgB (pkc t n p) = false → ka (nI i) (nI k) (nI p) T) (h1 : dgB (pkc t n p) = true → wp_X7_parsesCommand_L45 t (nI n) (nI q) w ka kb kc fu (nI (i + 1)) (nI (k + 1)) (nI (nuR t n mx p 0).2) (upd T (q * 5 + (k + 1)) (nI (nuR t n mx p 0).1))) : wp_X7_parsesCommand_L45 t (nI n) (nI q) w ka kb kc (fu + 1) (nI i) (nI k) (nI p) T := by
  have e1 : nI i + 1 = nI (i + 1) := nI_1 i
  have e2 : nI k + 1 = nI (k + 1) := nI_1 k
  rcases hc with ⟨hc, rfl⟩ | ⟨hc, rfl⟩
  · obtain ⟨n9, _, _⟩ := nuR_4 t (l := 1) (by omega) hp
    refine if_n hl ⟨hv, fun x hx => ?_⟩
    rw [hc] at hx
    subst hx
    refine if_y rfl (if_y rfl (tc_num (mx := 1) hn (by omega) (by omega) hp (fun hd => ?_) (fun hd => ?_)))
    · exact if_y rfl (h0 hd)
    · refine if_n (nI_m1 (by omega)) (fun y hy => ?_)
      rw [hy, e2]
      refine tb_put (W := 5) (I := q) (J := k + 1) rfl rfl rfl (by omega) (by omega) (fun z hz => ?_)
      rw [hz, e1]; exact h1 hd
  · obtain ⟨n9, _, _⟩ := nuR_4 t (l := 4) (by omega) hp
    refine if_n hl ⟨hv, fun x hx => ?_⟩
    rw [hc] at hx
    subst hx
    refine if_n (by decide) (if_y rfl (if_n (by decide) (tc_num (mx := 4) hn (by omega) (by omega) hp (fun hd => ?_) (fun hd => ?_))))
    · exact if_y rfl (h0 hd)
    · refine if_n (nI_m1 (by omega)) (fun y hy => ?_)
      rw [hy, e2]
      refine tb_put (W := 5) (I := q) (J := k + 1) rfl rfl rfl (by omega) (by omega) (fun z hz => ?_)
      rw [hz, e1]; exact h1 hd
theorem st_lit {w : Fin 4} {ka kb kc : Int32 → Int32 → Int32 → XRow → Prop} {i k q fu : Nat} {c : Int32} {T : XRow} (hn : n ≤ 80) (hp : p ≤ n) (hl : ¬ xLen w ≤ nI i) (hv : vp_in (nI i) (xTl.getD w.val 0)) (hc : xChr w (nI i) = c) (c1 : ¬ c = 100) (c2 : ¬ c = 110) (h0 : ¬ pkc t n p = c → kb (nI i) (nI k) (nI p) T) (h1 : pkc t n p = c → wp_X7_parsesCommand_L45 t (nI n) (nI q) w ka kb kc fu (nI (i + 1)) (nI k) (nI (p + 1)) T) : wp_X7_parsesCommand_L45 t (nI n) (nI q) w ka kb kc (fu + 1) (nI i) (nI k) (nI p) T := by
  have e1 : nI i + 1 = nI (i + 1) := nI_1 i
  refine if_n hl ⟨hv, fun x hx => ?_⟩
  rw [hc] at hx
  subst hx
  refine if_n c1 (if_n c2 (tc_takes hn (by omega) (fun h => bb_t rfl (fun y hy => ?_)) (fun h => bb_f rfl (h0 h))))
  rw [hy, e1]; exact h1 h
theorem st_end {w : Fin 4} {ka kb kc : Int32 → Int32 → Int32 → XRow → Prop} {i k q fu p : Nat} {T : XRow} (hl : xLen w ≤ nI i) (h : kc (nI i) (nI k) (nI p) T) : wp_X7_parsesCommand_L45 t (nI n) (nI q) w ka kb kc (fu + 1) (nI i) (nI k) (nI p) T := if_y hl h
theorem cF_p {k : Int32} (hk : pkc t n p = k) (h : k = 99 ∨ k = 102 ∨ k = 114 ∨ k = 115) : p + 1 ≤ n := by
  have : p < n := pk_in2 (c := k) (by rcases h with rfl | rfl | rfl | rfl <;> decide) hk
  omega
/-! the cases of a command -/
theorem cF_e (h1 : ¬ pkc t n p = 114) (h2 : ¬ pkc t n p = 115) (h3 : ¬ pkc t n p = 102) (h4 : ¬ pkc t n p = 99) : cF t n p = (false, p, fun _ => 0) := by
  unfold cF
  dsimp only
  rw [if_neg (fun h => h.elim h1 h2), if_neg (fun h => h.elim h3 h4)]
theorem cF_n (h : pkc t n p = 114 ∨ pkc t n p = 115) : cF t n p = (bif dgB (pkc t n (p + 1)) then (true, (nuR t n 4 (p + 1) 0).2, v5 (pkc t n p) (nI (nuR t n 4 (p + 1) 0).1) 0 0 0) else (false, p + 1, fun _ => 0)) := by
  unfold cF
  dsimp only
  rw [if_pos h]
/-- f: the numbers a, e at their spots -/
theorem cF_f (h : pkc t n p = 102) : cF t n p = (bif dgB (pkc t n (p + 1)) then (if pkc t n (nuR t n 1 (p + 1) 0).2 = 61 then (bif dgB (pkc t n ((nuR t n 1 (p + 1) 0).2 + 1)) then (true, (nuR t n 4 ((nuR t n 1 (p + 1) 0).2 + 1) 0).2, v5 102 (nI (nuR t n 1 (p + 1) 0).1) (nI (nuR t n 4 ((nuR t n 1 (p + 1) 0).2 + 1) 0).1) 0 0) else (false, (nuR t n 1 (p + 1) 0).2 + 1, fun _ => 0)) else (false, (nuR t n 1 (p + 1) 0).2, fun _ => 0)) else (false, p + 1, fun _ => 0)) := by
  unfold cF
  dsimp only
  rw [h, if_neg (by decide), if_pos (by decide)]
  rfl
def cG (t : XRow) (n p p1 : Nat) (a : Int32) : Bool × Nat × (Nat → Int32) :=
  let p2 := (nuR t n 4 (p1 + 1) 0).2
  let p3 := (nuR t n 4 (p2 + 1) 0).2
  if pkc t n p1 = 64 then (bif dgB (pkc t n (p1 + 1)) then (if pkc t n p2 = 42 then (bif dgB (pkc t n (p2 + 1)) then (if pkc t n p3 = 36 then (bif dgB (pkc t n (p3 + 1)) then (true, (nuR t n 4 (p3 + 1) 0).2, v5 99 a (nI (nuR t n 4 (p1 + 1) 0).1) (nI (nuR t n 4 (p2 + 1) 0).1) (nI (nuR t n 4 (p3 + 1) 0).1)) else (false, p3 + 1, fun _ => 0)) else (false, p3, fun _ => 0)) else (false, p2 + 1, fun _ => 0)) else (false, p2, fun _ => 0)) else (false, p1 + 1, fun _ => 0)) else (false, p1, fun _ => 0)
theorem cF_c (h : pkc t n p = 99) : cF t n p = (bif dgB (pkc t n (p + 1)) then cG t n p (nuR t n 1 (p + 1) 0).2 (nI (nuR t n 1 (p + 1) 0).1) else (false, p + 1, fun _ => 0)) := by
  unfold cF cG
  dsimp only
  rw [h, if_neg (by decide), if_pos (by decide)]
  rfl
/-- the rows that a command fills -/
def rwK (T T0 : XRow) (P a : Nat) (r : Nat → Int32) : Prop := (∀ j, j < a → T (P + j) = r j) ∧ (∀ x, x < P → T x = T0 x)
theorem rw_2 {T : XRow} {P : Nat} {k a b0 b1 b2 : Int32} : rwK (upd (upd T (P + 0) k) (P + 1) a) T P 2 (v5 k a b0 b1 b2) := by
  refine ⟨fun j hj => ?_, fun x hx => by rw [un (by omega), un (by omega)]⟩
  rcases (show j = 0 ∨ j = 1 by omega) with rfl | rfl
  · rw [un (by omega), u_at rfl]; rfl
  · rw [u_at rfl]; rfl
theorem rw_3 {T : XRow} {P : Nat} {k a c b1 b2 : Int32} : rwK (upd (upd (upd T (P + 0) k) (P + 1) a) (P + 2) c) T P 3 (v5 k a c b1 b2) := by
  refine ⟨fun j hj => ?_, fun x hx => by rw [un (by omega), un (by omega), un (by omega)]⟩
  rcases (show j = 0 ∨ j = 1 ∨ j = 2 by omega) with rfl | rfl | rfl
  · rw [un (by omega), un (by omega), u_at rfl]; rfl
  · rw [un (by omega), u_at rfl]; rfl
  · rw [u_at rfl]; rfl
theorem rw_5 {T : XRow} {P : Nat} {k a c e f : Int32} : rwK (upd (upd (upd (upd (upd T (P + 0) k) (P + 1) a) (P + 2) c) (P + 3) e) (P + 4) f) T P 5 (v5 k a c e f) := by
  refine ⟨fun j hj => ?_, fun x hx => by rw [un (by omega), un (by omega), un (by omega), un (by omega), un (by omega)]⟩
  rcases (show j = 0 ∨ j = 1 ∨ j = 2 ∨ j = 3 ∨ j = 4 by omega) with rfl | rfl | rfl | rfl | rfl
  · rw [un (by omega), un (by omega), un (by omega), un (by omega), u_at rfl]; rfl
  · rw [un (by omega), un (by omega), un (by omega), u_at rfl]; rfl
  · rw [un (by omega), un (by omega), u_at rfl]; rfl
  · rw [un (by omega), u_at rfl]; rfl
  · rw [u_at rfl]; rfl
theorem tc_cmd {q : Nat} {tC : XRow} {post : Bool × Int32 × XRow → Prop} (hn : n ≤ 80) (hp : p ≤ n) (hq : q ≤ 26) (h1 : (cF t n p).1 = true → ∀ T, rwK T tC (q * 5) (arN (pkc t n p)) (cF t n p).2.2 → post (true, nI (cF t n p).2.1, T)) (h2 : (cF t n p).1 = false → ∀ s T, s = nI (cF t n p).2.1 → post (false, s, T)) : wp_X7_parsesCommand t tC (nI n) (nI p) (nI q) post := by
  have e1 : nI p + 1 = nI (p + 1) := nI_1 p
  refine tc_peek hn (by omega) ?_
  have num : (pkc t n p = 114 ∨ pkc t n p = 115) → ((xEmpty 2) = true → (post (false, nI p, tC))) ∧ ((xEmpty 2) = false → (∀ x3 : Int32, x3 = nI p + 1 → (wp_X6_put 5 135 tC (nI q) 0 (pkc t n p) (fun u4 : XRow => ∃ fl, wp_X7_parsesCommand_L45 t (nI n) (nI q) 2 (fun (v28 : Int32) (v29 : Int32) (v30 : Int32) (v31 : XRow) => post (false, v30, v31)) (fun (v32 : Int32) (v33 : Int32) (v34 : Int32) (v35 : XRow) => post (false, v34, v35)) (fun (v36 : Int32) (v37 : Int32) (v38 : Int32) (v39 : XRow) => post (true, v38, v39)) fl 0 0 x3 u4)))) := fun hk => by
    have e := cF_n hk
    have hp1 : p + 1 ≤ n := by
      rcases hk with hk | hk
      · exact cF_p hk (by decide)
      · exact cF_p hk (by decide)
    refine bb_f rfl (fun x hx => tb_put (W := 5) (I := q) (J := 0) rfl rfl rfl (by omega) (by omega) ⟨2, ?_⟩)
    rw [hx, e1]
    refine st_num (i := 0) (k := 0) (mx := 4) hn hp1 hq (by omega) (by decide) (show vp_in (nI 0) 1 from vp_in_nI (by omega) (by omega)) (Or.inr ⟨by decide, rfl⟩) (fun hd => ?_) (fun hd => st_end (by decide) ?_)
    · rw [hd] at e; exact h2 (by rw [e]; rfl) _ _ (by rw [e] <;> rfl)
    · rw [hd] at e
      have ea : arN (pkc t n p) = 2 := by rcases hk with hk | hk <;> rw [hk] <;> rfl
      have := h1 (by rw [e]; rfl) (upd (upd tC (q * 5 + 0) (pkc t n p)) (q * 5 + 1) (nI (nuR t n 4 (p + 1) 0).1)) (by rw [e, ea]; exact rw_2)
      rw [e] at this
      exact this
  have hf : pkc t n p = 102 → ((xEmpty 0) = true → (post (false, nI p, tC))) ∧ ((xEmpty 0) = false → (∀ x3 : Int32, x3 = nI p + 1 → (wp_X6_put 5 135 tC (nI q) 0 (pkc t n p) (fun u4 : XRow => ∃ fl, wp_X7_parsesCommand_L45 t (nI n) (nI q) 0 (fun (v28 : Int32) (v29 : Int32) (v30 : Int32) (v31 : XRow) => post (false, v30, v31)) (fun (v32 : Int32) (v33 : Int32) (v34 : Int32) (v35 : XRow) => post (false, v34, v35)) (fun (v36 : Int32) (v37 : Int32) (v38 : Int32) (v39 : XRow) => post (true, v38, v39)) fl 0 0 x3 u4)))) := fun hk => by
    have e := cF_f hk
    have hp1 : p + 1 ≤ n := cF_p hk (by decide)
    obtain ⟨_, _, z1⟩ := nuR_4 t (l := 1) (by omega) hp1
    refine bb_f rfl (fun x hx => tb_put (W := 5) (I := q) (J := 0) rfl rfl rfl (by omega) (by omega) ⟨4, ?_⟩)
    rw [hx, e1]
    refine st_num (i := 0) (k := 0) (mx := 1) hn hp1 hq (by omega) (by decide) (show vp_in (nI 0) 3 from vp_in_nI (by omega) (by omega)) (Or.inl ⟨by decide, rfl⟩) (fun hd => ?_) (fun hd => ?_)
    · rw [hd] at e; exact h2 (by rw [e]; rfl) _ _ (by rw [e] <;> rfl)
    rw [hd] at e
    refine st_lit (i := 1) (k := 1) (c := 61) hn z1 (by decide) (show vp_in (nI 1) 3 from vp_in_nI (by omega) (by omega)) (by decide) (by decide) (by decide) (fun hs => ?_) (fun hs => ?_)
    · rw [if_neg hs] at e; exact h2 (by rw [e]; rfl) _ _ (by rw [e] <;> rfl)
    rw [if_pos hs] at e
    have z2 := pk_in2 (c := 61) (by decide) hs
    refine st_num (i := 2) (k := 1) (mx := 4) hn (by omega) hq (by omega) (by decide) (show vp_in (nI 2) 3 from vp_in_nI (by omega) (by omega)) (Or.inr ⟨by decide, rfl⟩) (fun hd2 => ?_) (fun hd2 => st_end (by decide) ?_)
    · rw [hd2] at e; exact h2 (by rw [e]; rfl) _ _ (by rw [e] <;> rfl)
    · rw [hd2] at e
      have ea : arN (pkc t n p) = 3 := by rw [hk]; rfl
      have := h1 (by rw [e]; rfl) (upd (upd (upd tC (q * 5 + 0) (pkc t n p)) (q * 5 + 1) (nI (nuR t n 1 (p + 1) 0).1)) (q * 5 + 2) (nI (nuR t n 4 ((nuR t n 1 (p + 1) 0).2 + 1) 0).1)) (by rw [e, ea, hk]; exact rw_3)
      rw [e] at this
      exact this
  have hcc : pkc t n p = 99 → ((xEmpty 1) = true → (post (false, nI p, tC))) ∧ ((xEmpty 1) = false → (∀ x3 : Int32, x3 = nI p + 1 → (wp_X6_put 5 135 tC (nI q) 0 (pkc t n p) (fun u4 : XRow => ∃ fl, wp_X7_parsesCommand_L45 t (nI n) (nI q) 1 (fun (v28 : Int32) (v29 : Int32) (v30 : Int32) (v31 : XRow) => post (false, v30, v31)) (fun (v32 : Int32) (v33 : Int32) (v34 : Int32) (v35 : XRow) => post (false, v34, v35)) (fun (v36 : Int32) (v37 : Int32) (v38 : Int32) (v39 : XRow) => post (true, v38, v39)) fl 0 0 x3 u4)))) := fun hk => by
    have e := cF_c hk
    have hp1 : p + 1 ≤ n := cF_p hk (by decide)
    obtain ⟨_, _, z1⟩ := nuR_4 t (l := 1) (by omega) hp1
    refine bb_f rfl (fun x hx => tb_put (W := 5) (I := q) (J := 0) rfl rfl rfl (by omega) (by omega) ⟨8, ?_⟩)
    rw [hx, e1]
    refine st_num (i := 0) (k := 0) (mx := 1) hn hp1 hq (by omega) (by decide) (show vp_in (nI 0) 7 from vp_in_nI (by omega) (by omega)) (Or.inl ⟨by decide, rfl⟩) (fun hd => ?_) (fun hd => ?_)
    · rw [hd] at e; exact h2 (by rw [e]; rfl) _ _ (by rw [e] <;> rfl)
    rw [hd] at e
    replace e : cF t n p = cG t n p (nuR t n 1 (p + 1) 0).2 (nI (nuR t n 1 (p + 1) 0).1) := e
    unfold cG at e
    dsimp only at e
    generalize (nuR t n 1 (p + 1) 0).2 = p1 at e z1 ⊢
    generalize nI (nuR t n 1 (p + 1) 0).1 = a at e ⊢
    refine st_lit (i := 1) (k := 1) (c := 64) hn z1 (by decide) (show vp_in (nI 1) 7 from vp_in_nI (by omega) (by omega)) (by decide) (by decide) (by decide) (fun hs => ?_) (fun hs => ?_)
    · rw [if_neg hs] at e; exact h2 (by rw [e]) _ _ (by rw [e] <;> rfl)
    rw [if_pos hs] at e
    have y1 : p1 + 1 ≤ n := by have := pk_in2 (c := 64) (by decide) hs; omega
    obtain ⟨_, _, z2⟩ := nuR_4 t (l := 4) (by omega) y1
    refine st_num (i := 2) (k := 1) (mx := 4) hn y1 hq (by omega) (by decide) (show vp_in (nI 2) 7 from vp_in_nI (by omega) (by omega)) (Or.inr ⟨by decide, rfl⟩) (fun hd2 => ?_) (fun hd2 => ?_)
    · rw [hd2] at e; exact h2 (by rw [e]; rfl) _ _ (by rw [e] <;> rfl)
    rw [hd2] at e
    generalize (nuR t n 4 (p1 + 1) 0).2 = p2 at e z2 ⊢
    generalize nI (nuR t n 4 (p1 + 1) 0).1 = a2 at e ⊢
    refine st_lit (i := 3) (k := 2) (c := 42) hn z2 (by decide) (show vp_in (nI 3) 7 from vp_in_nI (by omega) (by omega)) (by decide) (by decide) (by decide) (fun hs2 => ?_) (fun hs2 => ?_)
    · rw [if_neg hs2] at e; exact h2 (by rw [e]; rfl) _ _ (by rw [e] <;> rfl)
    rw [if_pos hs2] at e
    have y2 : p2 + 1 ≤ n := by have := pk_in2 (c := 42) (by decide) hs2; omega
    obtain ⟨_, _, z3⟩ := nuR_4 t (l := 4) (by omega) y2
    refine st_num (i := 4) (k := 2) (mx := 4) hn y2 hq (by omega) (by decide) (show vp_in (nI 4) 7 from vp_in_nI (by omega) (by omega)) (Or.inr ⟨by decide, rfl⟩) (fun hd3 => ?_) (fun hd3 => ?_)
    · rw [hd3] at e; exact h2 (by rw [e]; rfl) _ _ (by rw [e] <;> rfl)
    rw [hd3] at e
    generalize (nuR t n 4 (p2 + 1) 0).2 = p3 at e z3 ⊢
    generalize nI (nuR t n 4 (p2 + 1) 0).1 = a3 at e ⊢
    refine st_lit (i := 5) (k := 3) (c := 36) hn z3 (by decide) (show vp_in (nI 5) 7 from vp_in_nI (by omega) (by omega)) (by decide) (by decide) (by decide) (fun hs3 => ?_) (fun hs3 => ?_)
    · rw [if_neg hs3] at e; exact h2 (by rw [e]; rfl) _ _ (by rw [e] <;> rfl)
    rw [if_pos hs3] at e
    have y3 : p3 + 1 ≤ n := by have := pk_in2 (c := 36) (by decide) hs3; omega
    refine st_num (i := 6) (k := 3) (mx := 4) hn y3 hq (by omega) (by decide) (show vp_in (nI 6) 7 from vp_in_nI (by omega) (by omega)) (Or.inr ⟨by decide, rfl⟩) (fun hd4 => ?_) (fun hd4 => st_end (by decide) ?_)
    · rw [hd4] at e; exact h2 (by rw [e]; rfl) _ _ (by rw [e] <;> rfl)
    · rw [hd4] at e
      have ea : arN (pkc t n p) = 5 := by rw [hk]; rfl
      have := h1 (by rw [e]; rfl) (upd (upd (upd (upd (upd tC (q * 5 + 0) (pkc t n p)) (q * 5 + 1) a) (q * 5 + 2) a2) (q * 5 + 3) a3) (q * 5 + 4) (nI (nuR t n 4 (p3 + 1) 0).1)) (by rw [e, ea, hk]; exact rw_5)
      rw [e] at this
      exact this
  refine ⟨fun h => hcc h, fun h => hf h, fun h => num (Or.inl h), fun h => num (Or.inr h), fun h => bb_t rfl (h2 (by rw [cF_e h.2.2.1 h.2.2.2 h.2.1 h.1]) _ _ (by rw [cF_e h.2.2.1 h.2.2.2 h.2.1 h.1]))⟩
/-- the reference's -/
theorem tm_body {q : Nat} {told : XRow} {num : Int32} {post : Bool × Int32 × Int32 × Int32 × XRow → Prop} (hu : ∀ j, j < n → u j = t j) (hn : n ≤ 80) (hq : q ≤ 26) (hk : pkc t n p = 114 ∨ pkc t n p = 115 ∨ pkc t n p = 102 ∨ pkc t n p = 99) (h1 : (cF t n p).1 = true → ∀ m T, rwK T told (5 * q) (arN (pkc t n p)) (cF t n p).2.2 → post (true, nI (cF t n p).2.1, m, nI (q + 1), T)) (h2 : (cF t n p).1 = false → ∀ s m c T, s = nI (cF t n p).2.1 → post (false, s, m, c, T)) : cmB u told (nI n) num (nI (5 * q)) (pkc t n p) (nI (p + 1)) (nI (q + 1)) post := by
  have w1 : nI (5 * q) + 1 = nI (5 * q + 1) := nI_1 _
  have w2 : nI (5 * q) + 2 = nI (5 * q + 2) := nI_add _ 2
  have w3 : nI (5 * q) + 3 = nI (5 * q + 3) := nI_add _ 3
  have w4 : nI (5 * q) + 4 = nI (5 * q + 4) := nI_add _ 4
  have ec : (nI (5 * q)).toNatClampNeg = 5 * q + 0 := nI_clamp (by omega)
  have hp1 : p + 1 ≤ n := by rcases hk with hk | hk | hk | hk <;> exact cF_p hk (by decide)
  unfold cmB
  rw [ec]
  have nm : (pkc t n p = 114 ∨ pkc t n p = 115) → wp_X9_puts u (upd told (5 * q + 0) (pkc t n p)) (nI n) (nI (p + 1)) num (nI (5 * q) + 1) 4 (fun u5 : Bool × Int32 × Int32 × XRow => post (u5.1, u5.2.1, u5.2.2.1, nI (q + 1), u5.2.2.2)) := fun hk => by
    have e := cF_n hk
    have ea : arN (pkc t n p) = 2 := by rcases hk with hk | hk <;> rw [hk] <;> rfl
    refine tm_puts (P := 5 * q + 1) (mx := 4) hu hn (by omega) hp1 w1 (by omega) (fun hd x y => ?_) (fun hd => ?_)
    · rw [hd] at e; exact h2 (by rw [e]; rfl) _ _ _ _ (by rw [e] <;> rfl)
    · rw [hd] at e
      have := h1 (by rw [e]; rfl) (nI (nuR t n 4 (p + 1) 0).1) (upd (upd told (5 * q + 0) (pkc t n p)) (5 * q + 1) (nI (nuR t n 4 (p + 1) 0).1)) (by rw [e, ea]; exact rw_2)
      rw [e] at this
      exact this
  refine ⟨fun hk => nm (Or.inl hk), fun k1 => ⟨fun hk => nm (Or.inr hk), fun k2 => ?_⟩⟩
  obtain ⟨_, _, z1⟩ := nuR_4 t (l := 1) (by omega) hp1
  refine tm_puts (P := 5 * q + 1) (mx := 1) hu hn (by omega) hp1 w1 (by omega) (fun hd x y => bb_f rfl ?_) (fun hd => bb_t rfl ?_)
  · have e : cF t n p = (false, p + 1, fun _ => 0) := by
      rcases hk with hk | hk | hk | hk
      · exact absurd hk k1
      · exact absurd hk k2
      · rw [cF_f hk, hd]; rfl
      · rw [cF_c hk, hd]; rfl
    exact h2 (by rw [e]) _ _ _ _ (by rw [e])
  refine ⟨fun hk => ?_, fun k3 => ?_⟩
  · have e := cF_f hk
    rw [hd] at e
    refine tm_skips (c := 61) hu hn (by omega) (fun hs => bb_t rfl ?_) (fun hs => bb_f rfl ?_)
    · have z2 := pk_in2 (c := 61) (by decide) hs
      refine tm_puts (P := 5 * q + 2) (mx := 4) hu hn (by omega) (by omega) w2 (by omega) (fun hd2 x y => bb_f rfl ?_) (fun hd2 => bb_t rfl (if_y hk ?_))
      · rw [if_pos hs, hd2] at e; exact h2 (by rw [e]; rfl) _ _ _ _ (by rw [e] <;> rfl)
      · rw [if_pos hs, hd2] at e
        have ea : arN (pkc t n p) = 3 := by rw [hk]; rfl
        have := h1 (by rw [e]; rfl) (nI (nuR t n 4 ((nuR t n 1 (p + 1) 0).2 + 1) 0).1) (upd (upd (upd told (5 * q + 0) (pkc t n p)) (5 * q + 1) (nI (nuR t n 1 (p + 1) 0).1)) (5 * q + 2) (nI (nuR t n 4 ((nuR t n 1 (p + 1) 0).2 + 1) 0).1)) (by rw [e, ea, hk]; exact rw_3)
        rw [e] at this
        exact this
    · rw [if_neg hs] at e; exact h2 (by rw [e]; rfl) _ _ _ _ (by rw [e] <;> rfl)
  · have k4 : pkc t n p = 99 := by
      rcases hk with hk | hk | hk | hk
      · exact absurd hk k1
      · exact absurd hk k2
      · exact absurd hk k3
      · exact hk
    have e := cF_c k4
    rw [hd] at e
    replace e : cF t n p = cG t n p (nuR t n 1 (p + 1) 0).2 (nI (nuR t n 1 (p + 1) 0).1) := e
    unfold cG at e
    dsimp only at e
    generalize (nuR t n 1 (p + 1) 0).2 = p1 at e z1 ⊢
    generalize nI (nuR t n 1 (p + 1) 0).1 = a at e ⊢
    refine tm_skips (c := 64) hu hn (by omega) (fun hs => bb_t rfl ?_) (fun hs => bb_f rfl ?_)
    case refine_2 => rw [if_neg hs] at e; exact h2 (by rw [e]) _ _ _ _ (by rw [e] <;> rfl)
    rw [if_pos hs] at e
    have y1 : p1 + 1 ≤ n := by have := pk_in2 (c := 64) (by decide) hs; omega
    obtain ⟨_, _, z2⟩ := nuR_4 t (l := 4) (by omega) y1
    refine tm_puts (P := 5 * q + 2) (mx := 4) hu hn (by omega) y1 w2 (by omega) (fun hd2 x y => bb_f rfl ?_) (fun hd2 => bb_t rfl (if_n k3 ?_))
    · rw [hd2] at e; exact h2 (by rw [e]; rfl) _ _ _ _ (by rw [e] <;> rfl)
    rw [hd2] at e
    generalize (nuR t n 4 (p1 + 1) 0).2 = p2 at e z2 ⊢
    generalize nI (nuR t n 4 (p1 + 1) 0).1 = a2 at e ⊢
    refine tm_skips (c := 42) hu hn (by omega) (fun hs2 => bb_t rfl ?_) (fun hs2 => bb_f rfl ?_)
    case refine_2 => rw [if_neg hs2] at e; exact h2 (by rw [e]; rfl) _ _ _ _ (by rw [e] <;> rfl)
    rw [if_pos hs2] at e
    have y2 : p2 + 1 ≤ n := by have := pk_in2 (c := 42) (by decide) hs2; omega
    obtain ⟨_, _, z3⟩ := nuR_4 t (l := 4) (by omega) y2
    refine tm_puts (P := 5 * q + 3) (mx := 4) hu hn (by omega) y2 w3 (by omega) (fun hd3 x y => bb_f rfl ?_) (fun hd3 => bb_t rfl ?_)
    · rw [hd3] at e; exact h2 (by rw [e]; rfl) _ _ _ _ (by rw [e] <;> rfl)
    rw [hd3] at e
    generalize (nuR t n 4 (p2 + 1) 0).2 = p3 at e z3 ⊢
    generalize nI (nuR t n 4 (p2 + 1) 0).1 = a3 at e ⊢
    refine tm_skips (c := 36) hu hn (by omega) (fun hs3 => bb_t rfl ?_) (fun hs3 => bb_f rfl ?_)
    case refine_2 => rw [if_neg hs3] at e; exact h2 (by rw [e]; rfl) _ _ _ _ (by rw [e] <;> rfl)
    rw [if_pos hs3] at e
    have y3 : p3 + 1 ≤ n := by have := pk_in2 (c := 36) (by decide) hs3; omega
    refine tm_puts (P := 5 * q + 4) (mx := 4) hu hn (by omega) y3 w4 (by omega) (fun hd4 x y => bb_f rfl ?_) (fun hd4 => bb_t rfl ?_)
    · rw [hd4] at e; exact h2 (by rw [e]; rfl) _ _ _ _ (by rw [e] <;> rfl)
    · rw [hd4] at e
      have ea : arN (pkc t n p) = 5 := by rw [k4]; rfl
      have := h1 (by rw [e]; rfl) (nI (nuR t n 4 (p3 + 1) 0).1) (upd (upd (upd (upd (upd told (5 * q + 0) (pkc t n p)) (5 * q + 1) a) (5 * q + 2) a2) (5 * q + 3) a3) (5 * q + 4) (nI (nuR t n 4 (p3 + 1) 0).1)) (by rw [e, ea, k4]; exact rw_5)
      rw [e] at this
      exact this
theorem tm_cmd {q : Nat} {told : XRow} {num : Int32} {post : Bool × Int32 × Int32 × Int32 × XRow → Prop} (hu : ∀ j, j < n → u j = t j) (hn : n ≤ 80) (hp : p ≤ n) (hq : q ≤ 26) (h1 : (cF t n p).1 = true → ∀ m T, rwK T told (5 * q) (arN (pkc t n p)) (cF t n p).2.2 → post (true, nI (cF t n p).2.1, m, nI (q + 1), T)) (h2 : (cF t n p).1 = false → ∀ s m c T, s = nI (cF t n p).2.1 → post (false, s, m, c, T)) : wp_X9_command u told (nI n) (nI p) num (nI q) post := by
  intro x hx
  have ex : x = nI (5 * q) := by rw [hx, show (5 : Int32) = nI 5 from rfl, pk_mul]
  subst ex
  have e1 : nI p + 1 = nI (p + 1) := nI_1 p
  have e2 : nI q + 1 = nI (q + 1) := nI_1 q
  have bd : (pkc t n p = 114 ∨ pkc t n p = 115 ∨ pkc t n p = 102 ∨ pkc t n p = 99) → ∀ a c : Int32, a = nI p + 1 → c = nI q + 1 → cmB u told (nI n) num (nI (5 * q)) (pkc t n p) a c post := fun hk a c ha hc => by
    rw [ha, hc, e1, e2]; exact tm_body hu hn hq hk h1 h2
  have v200 : vp_in (nI (5 * q)) 200 := vp_in_nI (by omega) (by omega)
  refine tm_here hu hn (by omega) ⟨fun hk => ⟨v200, fun a ha c hc => bd (Or.inr (Or.inr (Or.inl hk))) a c ha hc⟩, fun k1 => ⟨fun hk => ⟨v200, fun a ha c hc => bd (Or.inl hk) a c ha hc⟩, fun k2 => ⟨fun hk => ⟨v200, fun a ha c hc => bd (Or.inr (Or.inr (Or.inr hk))) a c ha hc⟩, fun k3 => ⟨fun hk => ⟨v200, fun a ha c hc => bd (Or.inr (Or.inl hk)) a c ha hc⟩, fun k4 => h2 (by rw [cF_e k2 k4 k1 k3]) _ _ _ _ (by rw [cF_e k2 k4 k1 k3])⟩⟩⟩⟩
end CM
