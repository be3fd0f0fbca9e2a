/-! ===== level 2: the whole text of commands ===== -/
/-- a row of a command: its sign, its numbers -/
def rOK (r : Nat → Int32) : Prop := (r 0 = 99 ∨ r 0 = 102 ∨ r 0 = 114 ∨ r 0 = 115) ∧ ∀ j, 1 ≤ j → j < 5 → ∃ v, v ≤ 9999 ∧ r j = nI v
def psF (t : XRow) (n : Nat) : Nat → Nat → Option (List (Nat → Int32)) | 0, _ => none | f + 1, p => bif (cF t n p).1 then (if pkc t n (cF t n p).2.1 = 59 then (match psF t n f ((cF t n p).2.1 + 1) with | none => none | some L => some ((cF t n p).2.2 :: L)) else if (cF t n p).2.1 = n then some [(cF t n p).2.2] else none) else none
/-- where the reading of a text ends -/
def psS (t : XRow) (n : Nat) : Nat → Nat → Nat | 0, p => p | f + 1, p => bif (cF t n p).1 then (if pkc t n (cF t n p).2.1 = 59 then psS t n f ((cF t n p).2.1 + 1) else (cF t n p).2.1) else (cF t n p).2.1
def TK (T : XRow) : Nat → List (Nat → Int32) → Prop | _, [] => True | q, r :: L => (∀ j, j < arN (r 0) → T (q * 5 + j) = r j) ∧ TK T (q + 1) L
section PT
variable {t u : XRow} {n p : Nat}
theorem rOK_v5 {k : Int32} {a c e f : Nat} (hk : k = 99 ∨ k = 102 ∨ k = 114 ∨ k = 115) (ha : a ≤ 9999) (hc : c ≤ 9999) (he : e ≤ 9999) (hf : f ≤ 9999) : rOK (v5 k (nI a) (nI c) (nI e) (nI f)) := by
  refine ⟨hk, fun j h1 h5 => ?_⟩
  rcases (show j = 1 ∨ j = 2 ∨ j = 3 ∨ j = 4 by omega) with rfl | rfl | rfl | rfl
  · exact ⟨a, ha, rfl⟩
  · exact ⟨c, hc, rfl⟩
  · exact ⟨e, he, rfl⟩
  · exact ⟨f, hf, rfl⟩
theorem cF_ok (hp : p ≤ n) (h : (cF t n p).1 = true) : p + 2 ≤ (cF t n p).2.1 ∧ (cF t n p).2.1 ≤ n ∧ (cF t n p).2.2 0 = pkc t n p ∧ rOK (cF t n p).2.2 := by
  by_cases k1 : pkc t n p = 114 ∨ pkc t n p = 115
  · have e := cF_n k1
    have hp1 : p + 1 ≤ n := by
      rcases k1 with hk | hk <;> exact cF_p hk (by decide)
    cases hd : dgB (pkc t n (p + 1)) with
    | false => rw [hd] at e; rw [e] at h; exact Bool.noConfusion h
    | true =>
      rw [hd] at e
      replace e : cF t n p = (true, (nuR t n 4 (p + 1) 0).2, v5 (pkc t n p) (nI (nuR t n 4 (p + 1) 0).1) (nI 0) (nI 0) (nI 0)) := e
      rw [e]
      obtain ⟨a1, a2, a3⟩ := nuR_4 t (l := 4) (by omega) hp1
      have b1 := nuR_1 t (l := 4) hd (by omega) hp1
      exact ⟨by show p + 2 ≤ (nuR t n 4 (p + 1) 0).2; omega, a3, rfl, rOK_v5 (Or.inr (Or.inr k1)) a1 (by omega) (by omega) (by omega)⟩
  · by_cases k2 : pkc t n p = 102
    · have e := cF_f k2
      have hp1 : p + 1 ≤ n := cF_p k2 (by decide)
      cases hd : dgB (pkc t n (p + 1)) with
      | false => rw [hd] at e; rw [e] at h; exact Bool.noConfusion h
      | true =>
        rw [hd] at e
        obtain ⟨a1, a2, a3⟩ := nuR_4 t (l := 1) (by omega) hp1
        generalize (nuR t n 1 (p + 1) 0).2 = p1 at e a2 a3
        generalize (nuR t n 1 (p + 1) 0).1 = a at e a1
        by_cases hs : pkc t n p1 = 61
        · rw [if_pos hs] at e
          have y1 := pk_in2 (c := 61) (by decide) hs
          cases hd2 : dgB (pkc t n (p1 + 1)) with
          | false => rw [hd2] at e; rw [e] at h; exact Bool.noConfusion h
          | true =>
            rw [hd2] at e
            obtain ⟨c1, c2, c3⟩ := nuR_4 t (n := n) (p := p1 + 1) (l := 4) (by omega) (by omega)
            generalize (nuR t n 4 (p1 + 1) 0).2 = p2 at e c2 c3
            generalize (nuR t n 4 (p1 + 1) 0).1 = c at e c1
            replace e : cF t n p = (true, p2, v5 102 (nI a) (nI c) (nI 0) (nI 0)) := e
            rw [e]
            exact ⟨by show p + 2 ≤ p2; omega, c3, k2.symm, rOK_v5 (Or.inr (Or.inl rfl)) a1 c1 (by omega) (by omega)⟩
        · rw [if_neg hs] at e; rw [e] at h; exact Bool.noConfusion h
    · by_cases k3 : pkc t n p = 99
      · have e := cF_c k3
        have hp1 : p + 1 ≤ n := cF_p k3 (by decide)
        cases hd : dgB (pkc t n (p + 1)) with
        | false => rw [hd] at e; rw [e] at h; exact Bool.noConfusion h
        | true =>
          rw [hd] at e
          replace e : cF t n p = cG t n p (nuR t n 1 (p + 1) 0).2 (nI (nuR t n 1 (p + 1) 0).1) := e
          obtain ⟨a1, a2, a3⟩ := nuR_4 t (l := 1) (by omega) hp1
          unfold cG at e
          dsimp only at e
          generalize (nuR t n 1 (p + 1) 0).2 = p1 at e a2 a3
          generalize (nuR t n 1 (p + 1) 0).1 = a at e a1
          by_cases hs : pkc t n p1 = 64
          · rw [if_pos hs] at e
            have y1 := pk_in2 (c := 64) (by decide) hs
            cases hd2 : dgB (pkc t n (p1 + 1)) with
            | false => rw [hd2] at e; rw [e] at h; exact Bool.noConfusion h
            | true =>
              rw [hd2] at e
              obtain ⟨c1, c2, c3⟩ := nuR_4 t (n := n) (p := p1 + 1) (l := 4) (by omega) (by omega)
              generalize (nuR t n 4 (p1 + 1) 0).2 = p2 at e c2 c3
              generalize (nuR t n 4 (p1 + 1) 0).1 = c at e c1
              by_cases hs2 : pkc t n p2 = 42
              · rw [if_pos hs2] at e
                have y2 := pk_in2 (c := 42) (by decide) hs2
                cases hd3 : dgB (pkc t n (p2 + 1)) with
                | false => rw [hd3] at e; rw [e] at h; exact Bool.noConfusion h
                | true =>
                  rw [hd3] at e
                  obtain ⟨g1, g2, g3⟩ := nuR_4 t (n := n) (p := p2 + 1) (l := 4) (by omega) (by omega)
                  generalize (nuR t n 4 (p2 + 1) 0).2 = p3 at e g2 g3
                  generalize (nuR t n 4 (p2 + 1) 0).1 = m at e g1
                  by_cases hs3 : pkc t n p3 = 36
                  · rw [if_pos hs3] at e
                    have y3 := pk_in2 (c := 36) (by decide) hs3
                    cases hd4 : dgB (pkc t n (p3 + 1)) with
                    | false => rw [hd4] at e; rw [e] at h; exact Bool.noConfusion h
                    | true =>
                      rw [hd4] at e
                      obtain ⟨i1, i2, i3⟩ := nuR_4 t (n := n) (p := p3 + 1) (l := 4) (by omega) (by omega)
                      replace e : cF t n p = (true, (nuR t n 4 (p3 + 1) 0).2, v5 99 (nI a) (nI c) (nI m) (nI (nuR t n 4 (p3 + 1) 0).1)) := e
                      rw [e]
                      exact ⟨by show p + 2 ≤ (nuR t n 4 (p3 + 1) 0).2; omega, i3, k3.symm, rOK_v5 (Or.inl rfl) a1 c1 g1 i1⟩
                  · rw [if_neg hs3] at e; rw [e] at h; exact Bool.noConfusion h
              · rw [if_neg hs2] at e; rw [e] at h; exact Bool.noConfusion h
          · rw [if_neg hs] at e; rw [e] at h; exact Bool.noConfusion h
      · rw [cF_e (fun h => k1 (Or.inl h)) (fun h => k1 (Or.inr h)) k2 k3] at h; exact Bool.noConfusion h
theorem arN_5 (k : Int32) : arN k ≤ 5 := by
  unfold arN
  split
  · omega
  · split <;> omega
/-- the three ends of a step -/
theorem psF_no {f : Nat} (h : (cF t n p).1 = false) : psF t n (f + 1) p = none := by
  unfold psF; rw [h]; rfl
theorem psF_go {f : Nat} (h : (cF t n p).1 = true) (h2 : pkc t n (cF t n p).2.1 = 59) : psF t n (f + 1) p = (match psF t n f ((cF t n p).2.1 + 1) with | none => none | some L => some ((cF t n p).2.2 :: L)) := by
  show (bif (cF t n p).1 then _ else _) = _
  rw [h]
  show (if _ then _ else _) = _
  rw [if_pos h2]
theorem psF_end {f : Nat} (h : (cF t n p).1 = true) (h2 : (cF t n p).2.1 = n) : psF t n (f + 1) p = some [(cF t n p).2.2] := by
  show (bif (cF t n p).1 then _ else _) = _
  rw [h]
  show (if _ then _ else _) = _
  have h3 : ¬ pkc t n (cF t n p).2.1 = 59 := by
    unfold pkc; rw [h2, if_neg (by omega)]; decide
  rw [if_neg h3, if_pos h2]
theorem psF_bad {f : Nat} (h : (cF t n p).1 = true) (h2 : ¬ pkc t n (cF t n p).2.1 = 59) (h3 : ¬ (cF t n p).2.1 = n) : psF t n (f + 1) p = none := by
  show (bif (cF t n p).1 then _ else _) = _
  rw [h]
  show (if _ then _ else _) = _
  rw [if_neg h2, if_neg h3]
theorem psS_no {f : Nat} (h : (cF t n p).1 = false) : psS t n (f + 1) p = (cF t n p).2.1 := by
  show (bif (cF t n p).1 then _ else _) = _
  rw [h]; rfl
theorem psS_go {f : Nat} (h : (cF t n p).1 = true) (h2 : pkc t n (cF t n p).2.1 = 59) : psS t n (f + 1) p = psS t n f ((cF t n p).2.1 + 1) := by
  show (bif (cF t n p).1 then _ else _) = _
  rw [h]
  exact if_pos h2
theorem psS_bad {f : Nat} (h : (cF t n p).1 = true) (h2 : ¬ pkc t n (cF t n p).2.1 = 59) : psS t n (f + 1) p = (cF t n p).2.1 := by
  show (bif (cF t n p).1 then _ else _) = _
  rw [h]
  exact if_neg h2
theorem psF_ok : ∀ (f p : Nat) (L : List (Nat → Int32)), p ≤ n → psF t n f p = some L → 1 ≤ L.length ∧ p + 3 * L.length ≤ n + 1 ∧ ∀ r ∈ L, rOK r
  | 0, p, L, _, h => by cases h
  | f + 1, p, L, hp, h => by
    cases hc : (cF t n p).1 with
    | false => rw [psF_no hc] at h; cases h
    | true =>
      obtain ⟨a1, a2, a3, a4⟩ := cF_ok hp hc
      by_cases h2 : pkc t n (cF t n p).2.1 = 59
      · rw [psF_go hc h2] at h
        have y := pk_in2 (c := 59) (by decide) h2
        cases hL : psF t n f ((cF t n p).2.1 + 1) with
        | none => rw [hL] at h; cases h
        | some M =>
          rw [hL] at h
          replace h : (cF t n p).2.2 :: M = L := Option.some.inj h
          obtain ⟨i1, i2, i3⟩ := psF_ok f _ M (by omega) hL
          subst h
          refine ⟨by rw [List.length_cons]; omega, by rw [List.length_cons]; omega, fun r hr => ?_⟩
          rcases List.mem_cons.mp hr with rfl | hr
          · exact a4
          · exact i3 r hr
      · by_cases h3 : (cF t n p).2.1 = n
        · rw [psF_end hc h3] at h
          replace h : [(cF t n p).2.2] = L := Option.some.inj h
          subst h
          refine ⟨Nat.le_refl _, by show p + 3 * 1 ≤ n + 1; omega, fun r hr => ?_⟩
          rcases List.mem_cons.mp hr with rfl | hr
          · exact a4
          · cases hr
        · rw [psF_bad hc h2 h3] at h; cases h
theorem tc_pgo {k34 k54 k62 : Int32 → Int32 → Int32 → XRow → Prop} (hn : n ≤ 80) : ∀ (f p q : Nat) (T : XRow) (v3 : Int32), p ≤ n → 3 * q ≤ p → n < p + 3 * (f + 1) → (∀ L, psF t n (f + 1) p = some L → ∀ T', TK T' q L → (∀ x, x < q * 5 → T' x = T x) → ∀ i s, k54 i s (nI (q + L.length)) T') → (psF t n (f + 1) p = none → ∀ i s c T', s = nI (psS t n (f + 1) p) → k34 i s c T') → wp_X7_parsesCommand t T (nI n) (nI p) (nI q) (fun u5 : Bool × Int32 × XRow => (u5.1 = true → (∀ x6 : Int32, x6 = nI q + 1 → ((u5.2.1 < nI n → (∀ x7 : Int32, x7 = nI q + 1 → (wp_X7_parse_L7 t (nI n) k34 k54 k62 f x7 u5.2.1 x6 u5.2.2))) ∧ (¬ u5.2.1 < nI n → (k54 (nI q) u5.2.1 x6 u5.2.2))))) ∧ (u5.1 = false → (k34 (nI q) u5.2.1 v3 u5.2.2))) := by
  intro f
  induction f with
  | zero =>
    intro p q T v3 hp hq hf H1 H2
    refine tc_cmd hn hp (by omega) (fun hc T1 hw => bb_t rfl (fun x hx => ?_)) (fun hc s T1 hs => bb_f rfl (H2 (psF_no hc) _ _ _ _ (by rw [psS_no hc]; exact hs)))
    obtain ⟨a1, a2, a3, a4⟩ := cF_ok hp hc
    have e2 : nI q + 1 = nI (q + 1) := nI_1 q
    refine if_n (nI_nlt (by omega) (by omega)) ?_
    rw [hx, e2]
    exact H1 _ (psF_end hc (by omega)) T1 ⟨fun j hj => by rw [a3] at hj; exact hw.1 j hj, trivial⟩ hw.2 _ _
  | succ f ih =>
    intro p q T v3 hp hq hf H1 H2
    refine tc_cmd hn hp (by omega) (fun hc T1 hw => bb_t rfl (fun x hx => ?_)) (fun hc s T1 hs => bb_f rfl (H2 (psF_no hc) _ _ _ _ (by rw [psS_no hc]; exact hs)))
    obtain ⟨a1, a2, a3, a4⟩ := cF_ok hp hc
    have e2 : nI q + 1 = nI (q + 1) := nI_1 q
    refine ⟨fun hlt y hy => ?_, fun hge => ?_⟩
    · have hlt2 : (cF t n p).2.1 < n := by
        by_cases h : (cF t n p).2.1 < n
        · exact h
        · exact absurd hlt (nI_nlt (by omega) (by omega))
      rw [hx, hy, e2]
      refine if_n (nI_ge (a := q + 1) (b := 27) (by omega) (by omega)) (if_n (nI_ge (a := 0) (b := q + 1) (by omega) (by omega)) (tc_takes hn (by omega) (fun h59 => bb_t rfl ?_) (fun h59 => bb_f rfl (H2 (psF_bad hc h59 (by omega)) _ _ _ _ (by rw [psS_bad hc h59])))))
      refine ih ((cF t n p).2.1 + 1) (q + 1) T1 _ (by omega) (by omega) (by omega) (fun L hL T' hT hx' i s => ?_) (fun hN i s c T' hs => ?_)
      · have hh := H1 ((cF t n p).2.2 :: L) (by rw [psF_go hc h59, hL]) T' ⟨fun j hj => ?_, hT⟩ (fun x hx2 => (hx' x (by omega)).trans (hw.2 x hx2)) i s
        · rw [List.length_cons, show q + (L.length + 1) = q + 1 + L.length by omega] at hh
          exact hh
        · have h5 := arN_5 ((cF t n p).2.2 0)
          rw [hx' _ (by omega)]
          rw [a3] at hj; exact hw.1 j hj
      · exact H2 (by rw [psF_go hc h59, hN]) i s c T' (by rw [psS_go hc h59]; exact hs)
    · have hge2 : (cF t n p).2.1 = n := by
        by_cases h : (cF t n p).2.1 < n
        · exact absurd (nI_lt h (by omega)) hge
        · omega
      rw [hx, e2]
      exact H1 _ (psF_end hc hge2) T1 ⟨fun j hj => by rw [a3] at hj; exact hw.1 j hj, trivial⟩ hw.2 _ _
/-- the class reads the text -/
theorem tc_parse {tC : XRow} {tc : Int32} {post : Bool × Int32 × Int32 × XRow → Prop} (hn : n ≤ 80) (h1 : ∀ L, psF t n 28 0 = some L → ∀ T', TK T' 0 L → ∀ s, post (true, s, nI L.length, T')) (h2 : psF t n 28 0 = none → ∀ s c T', s = nI (psS t n 28 0) → post (false, s, c, T')) : wp_X7_parse t tC (nI n) tc post := by
  refine ⟨28, ?_⟩
  refine if_n (by decide) (if_y (by decide) ?_)
  refine tc_pgo hn 27 0 0 tC _ (by omega) (by omega) (by omega) (fun L hL T' hT _ i s => ?_) (fun hN i s c T' hs => h2 hN s c T' hs)
  rw [Nat.zero_add]
  exact h1 L hL T' hT s
theorem tm_pgo {k17 k28 : Int32 → Int32 → Int32 → XRow → Prop} (hu : ∀ j, j < n → u j = t j) (hn : n ≤ 80) : ∀ (f p q : Nat) (T : XRow) (m : Int32), p ≤ n → 3 * q ≤ p → n < p + 3 * f → (∀ L, psF t n f p = some L → ∀ T', TK T' q L → (∀ x, x < q * 5 → T' x = T x) → ∀ m', k28 (nI n) m' (nI (q + L.length)) T') → (psF t n f p = none → (∀ s m' c T', s = nI (psS t n f p) → k17 s m' c T') ∧ (∀ s m' c T', s = nI (psS t n f p) → ¬ s = nI n → k28 s m' c T')) → wp_X9_isText_L10 u (nI n) k17 k28 f (nI p) m (nI q) T := by
  intro f
  induction f with
  | zero => intro p q T m hp hq hf; omega
  | succ f ih =>
    intro p q T m hp hq hf H1 H2
    refine tm_cmd hu hn hp (by omega) (fun hc m' T1 hw => bb_t rfl ?_) (fun hc s m' c T1 hs => bb_f rfl ((H2 (psF_no hc)).1 _ _ _ _ (by rw [psS_no hc]; exact hs)))
    obtain ⟨a1, a2, a3, a4⟩ := cF_ok hp hc
    have hw1 : ∀ j, j < arN (pkc t n p) → T1 (q * 5 + j) = (cF t n p).2.2 j := fun j hj => by rw [Nat.mul_comm q 5]; exact hw.1 j hj
    refine tm_skips hu hn (by omega) (fun h59 => bb_t rfl ?_) (fun h59 => bb_f rfl ?_)
    · have y := pk_in2 (c := 59) (by decide) h59
      refine ih ((cF t n p).2.1 + 1) (q + 1) T1 _ (by omega) (by omega) (by omega) (fun L hL T' hT hx' m2 => ?_) (fun hN => ?_)
      · have hh := H1 ((cF t n p).2.2 :: L) (by rw [psF_go hc h59, hL]) T' ⟨fun j hj => ?_, hT⟩ (fun x hx2 => (hx' x (by omega)).trans (hw.2 x (by omega))) m2
        · rw [List.length_cons, show q + (L.length + 1) = q + 1 + L.length by omega] at hh
          exact hh
        · have h5 := arN_5 ((cF t n p).2.2 0)
          rw [hx' _ (by omega)]
          rw [a3] at hj; exact hw1 j hj
      · have := H2 (by rw [psF_go hc h59, hN])
        rw [psS_go hc h59] at this
        exact this
    · by_cases h3 : (cF t n p).2.1 = n
      · have := H1 _ (psF_end hc h3) T1 ⟨fun j hj => by rw [a3] at hj; exact hw1 j hj, trivial⟩ (fun x hx2 => hw.2 x (by omega)) m'
        rw [h3]
        exact this
      · exact (H2 (psF_bad hc h59 h3)).2 _ _ _ _ (by rw [psS_bad hc h59]) (nI_ne (by omega) (by omega) h3)
/-- the reference reads the text -/
theorem tm_isText {told : XRow} {m : Int32} {post : Bool × Int32 × Int32 × Int32 × XRow → Prop} (hu : ∀ j, j < n → u j = t j) (hn : n ≤ 80) (h1 : ∀ L, psF t n 28 0 = some L → ∀ T', TK T' 0 L → ∀ s m', post (true, s, m', nI L.length, T')) (h2 : psF t n 28 0 = none → ∀ s m' c T', s = nI (psS t n 28 0) → post (false, s, m', c, T')) : wp_X9_isText u told (nI n) m post := by
  refine ⟨28, ?_⟩
  refine tm_pgo hu hn 28 0 0 told m (by omega) (by omega) (by omega) (fun L hL T' hT _ m' => if_y rfl ?_) (fun hN => ⟨fun s m' c T' h9 => h2 hN _ _ _ _ h9, fun s m' c T' h9 hs => if_n hs (h2 hN _ _ _ _ h9)⟩)
  rw [Nat.zero_add]
  exact h1 L hL T' hT _ _
end PT
