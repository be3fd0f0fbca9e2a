/-! ===== level 2: runs of passes ===== -/
def dPq (d : PD) (M P N : XRow) (bc z pc : Int32) : PD := (d.1, M, P, N, bc, d.2.2.2.2.2.1, d.2.2.2.2.2.2.1, d.2.2.2.2.2.2.2.1, d.2.2.2.2.2.2.2.2.1, d.2.2.2.2.2.2.2.2.2.1, z, pc)
def rnG : Nat → Nat → XRow → Nat × XRow | 0, n, g => (n, g) | f + 1, n, g => bif decide (0 < s5 (kq g 11)) && chgB g then rnG f (n + 1) (stepG g) else (n, g)
def stR : Nat → Nat → XRow → Nat | 0, n, _ => n | f + 1, n, g => bif chgB g then stR f (n + 1) (stepG g) else n
section RU
variable {b : Nat} {d : PD} {g : XRow}
theorem Rel_pc1 (hR : Rel b d g) : Rel b (d.1, d.2.1, d.2.2.1, d.2.2.2.1, d.2.2.2.2.1, d.2.2.2.2.2.1, d.2.2.2.2.2.2.1, d.2.2.2.2.2.2.2.1, d.2.2.2.2.2.2.2.2.1, d.2.2.2.2.2.2.2.2.2.1, d.2.2.2.2.2.2.2.2.2.2.1, d.2.2.2.2.2.2.2.2.2.2.2 + 1) (upd g 4 (g 4 + 1)) := by
  obtain ⟨hI, hS, hM, hP, hN, e1, hC, e2, e3, e4, e5⟩ := hR
  have h6 := (IM_mc (Inv_M hI)).2
  have hcc := (IC_nc (Inv_C hI)).2
  have far : ∀ j, j ≠ 4 → upd g 4 (g 4 + 1) j = g j := fun j hj => un hj
  have f0 := far 0 (by omega)
  refine ⟨Inv_far hI (IS_eq (fun j _ _ => far j (by omega)) (Inv_S hI)) (IM_eq f0 (fun m hm j hj => far _ (by omega)) (Inv_M hI)) (IK_eq f0 (fun j _ _ => far j (by omega)) (fun m hm k hk => far _ (by omega)) (Inv_K hI)) (fun j hj => far j (by omega)), RS_eq (fun j _ _ => far j (by omega)) hS, RM_eq f0 (fun m hm j hj => far _ (by omega)) (fun m hm => far _ (by omega)) hM, RP_eq f0 (fun j _ _ => far j (by omega)) (fun m hm k hk => far _ (by omega)) hP, RN_eq (Inv_B hI) (far 2 (by omega)) (fun j _ _ => far j (by omega)) hN, ?_, RC_eq hcc (far 3 (by omega)) (fun j _ _ => far j (by omega)) hC, ?_, ?_, ?_, ?_⟩
  · rw [far 2 (by omega)]; exact e1
  · rw [far 3 (by omega)]; exact e2
  · rw [far 0 (by omega)]; exact e3
  · rw [far 1 (by omega)]; exact e4
  · show d.2.2.2.2.2.2.2.2.2.2.2 + 1 = upd g 4 (g 4 + 1) 4
    rw [pk_us, e5]
theorem Rel_step {M P N : XRow} {bc z : Int32} (h4 : pasG g 4 = g 4) (h : Rel b (dPs d M P N bc z) (pasG g)) : Rel b (dPq d M P N bc z (d.2.2.2.2.2.2.2.2.2.2.2 + 1)) (stepG g) := by
  have := Rel_pc1 h
  rw [h4] at this
  exact this
/-- a pass that changed nothing -/
theorem pas_no (hb : b ≤ 600) (hR : Rel b d g) (h : chgB g = false) : pasG g = g := by
  obtain ⟨_, _, _, pge, peq⟩ := pas_facts hb hR
  unfold chgB at h
  rw [Bool.or_eq_false_iff, decide_eq_false_iff_not, decide_eq_false_iff_not] at h
  rw [peq (by omega)]
  exact same_gC hR.1 hb (by omega)
theorem tc_runs {lim : Nat} {x : Int32} {kk : Int32 → Int32 → XRow → XRow → Int32 → XRow → XRow → Prop} (hb : b ≤ 600) (hl : lim ≤ 200) : ∀ (f n : Nat) (g : XRow) (M P N : XRow) (bc z : Int32) (R : XRow), Rel b (dPq d M P N bc z (x + nI n)) g → n + f = lim → (∀ M' P' N' bc' z' R', Rel b (dPq d M' P' N' bc' z' (x + nI (rnG f n g).1)) (rnG f n g).2 → kk (nI (rnG f n g).1) z' M' P' bc' N' R') → wp_X4_makePasses_L2 d.1 d.2.2.2.2.2.2.2.2.2.1 (nI lim) kk (f + 1) (nI n) z M P bc N R
  | 0, n, g, M, P, N, bc, z, R, hR, hf, h => by
    obtain rfl : n = lim := by omega
    exact if_y (nI_le (Nat.le_refl _) (by omega)) (h _ _ _ _ _ _ hR)
  | f + 1, n, g, M, P, N, bc, z, R, hR, hf, h => by
    have hsum : i5 P (6 * 5) = nI (s5 (kq g 11)) := i5_nI (q := kq g 11) (fun k hk => by
      rw [show 6 * 5 + k = 30 + k by omega]
      exact ((Rel_P hR).1 k hk).1.trans ((Inv_K hR.1).1 k hk).1)
    have ht := (Inv_K hR.1).2.2.1
    unfold tot at ht
    have es : rnG (f + 1) n g = bif decide (0 < s5 (kq g 11)) && chgB g then rnG f (n + 1) (stepG g) else (n, g) := rfl
    refine if_n (nI_ge (by omega) (by omega)) (tb_sum (I := 6) rfl (by omega) (by omega) ?_)
    rw [hsum]
    refine pk_le (s5 (kq g 11)) 0 (fun h1 => ?_) (fun h1 => ?_)
    · rw [decide_eq_false (by omega : ¬ 0 < s5 (kq g 11))] at es
      replace es : rnG (f + 1) n g = (n, g) := es
      rw [es] at h
      exact h _ _ _ _ _ _ hR
    · rw [decide_eq_true h1] at es
      replace es : rnG (f + 1) n g = bif chgB g then rnG f (n + 1) (stepG g) else (n, g) := es
      refine tc_pass (d := dPq d M P N bc z (x + nI n)) hb hR (fun M' P' N' bc' z' R' hq => ?_)
      cases hc : chgB g with
      | false =>
        rw [hc] at es
        replace es : rnG (f + 1) n g = (n, g) := es
        rw [es] at h
        rw [pas_no hb hR hc] at hq
        exact bb_f rfl (h _ _ _ _ _ _ hq)
      | true =>
        rw [hc] at es
        replace es : rnG (f + 1) n g = rnG f (n + 1) (stepG g) := es
        rw [es] at h
        refine bb_t rfl (fun y hy => ?_)
        have e1 : nI n + 1 = nI (n + 1) := nI_1 n
        rw [hy, e1]
        have hs := Rel_step (d := dPq d M P N bc z (x + nI n)) (pas_facts hb hR).2.2.1 hq
        have hs2 : Rel b (dPq d M' P' N' bc' z' (x + nI n + 1)) (stepG g) := hs
        rw [Int32.add_assoc, e1] at hs2
        exact tc_runs hb hl f (n + 1) (stepG g) M' P' N' bc' z' R' hs2 (by omega) h
theorem tm_runs {lim : Nat} {kk : Int32 → XRow → XRow → XRow → XRow → Prop} (hb : b ≤ 600) (hl : lim ≤ 200) : ∀ (f n : Nat) (g : XRow) (d : PD) (T p c : XRow), Rel b d g → n + f = lim → (∀ T p c, kk (nI (rnG f n g).1) (rnG f n g).2 T p c) → wp_X9_runs_L2 (nI lim) kk (f + 1) (nI n) g T p c
  | 0, n, g, d, T, p, c, hR, hf, h => by
    obtain rfl : n = lim := by omega
    exact if_y (nI_le (Nat.le_refl _) (by omega)) (h _ _ _)
  | f + 1, n, g, d, T, p, c, hR, hf, h => by
    have ht := (Inv_K hR.1).2.2.1
    unfold tot at ht
    have es : rnG (f + 1) n g = bif decide (0 < s5 (kq g 11)) && chgB g then rnG f (n + 1) (stepG g) else (n, g) := rfl
    refine if_n (nI_ge (by omega) (by omega)) (tq_sum (a := 11) rfl (by omega) ?_)
    rw [i5_g (fun k hk => ((Inv_K hR.1).1 k hk).1)]
    refine pk_le (s5 (kq g 11)) 0 (fun h1 => ?_) (fun h1 => ?_)
    · rw [decide_eq_false (by omega : ¬ 0 < s5 (kq g 11))] at es
      replace es : rnG (f + 1) n g = (n, g) := es
      rw [es] at h
      exact h _ _ _
    · rw [decide_eq_true h1] at es
      replace es : rnG (f + 1) n g = bif chgB g then rnG f (n + 1) (stepG g) else (n, g) := es
      refine tm_goes hb hR (fun hc T' p' c' => ?_) (fun hc T' p' c' => ?_)
      · rw [hc] at es
        replace es : rnG (f + 1) n g = rnG f (n + 1) (stepG g) := es
        rw [es] at h
        refine bb_t rfl (fun y hy => ?_)
        have e1 : nI n + 1 = nI (n + 1) := nI_1 n
        rw [hy, e1]
        obtain ⟨⟨M, P, N, bc, z, hq⟩, _, p4, _⟩ := pas_facts hb hR
        exact tm_runs hb hl f (n + 1) (stepG g) _ T' p' c' (Rel_step p4 hq) (by omega) h
      · rw [hc] at es
        replace es : rnG (f + 1) n g = (n, g) := es
        rw [es] at h
        exact bb_f rfl (h _ _ _)
theorem rnG_Rel (hb : b ≤ 600) : ∀ (f n : Nat) (g : XRow) (d : PD), Rel b d g → ∃ d', Rel b d' (rnG f n g).2
  | 0, n, g, d, hR => ⟨d, hR⟩
  | f + 1, n, g, d, hR => by
    have es : rnG (f + 1) n g = bif decide (0 < s5 (kq g 11)) && chgB g then rnG f (n + 1) (stepG g) else (n, g) := rfl
    cases hc : decide (0 < s5 (kq g 11)) && chgB g with
    | false => rw [hc] at es; rw [es]; exact ⟨d, hR⟩
    | true =>
      rw [hc] at es; rw [es]
      obtain ⟨⟨M, P, N, bc, z, hq⟩, _, p4, _⟩ := pas_facts hb hR
      exact rnG_Rel hb f (n + 1) (stepG g) _ (Rel_step p4 hq)
theorem rnG_le : ∀ (f n : Nat) (g : XRow), (rnG f n g).1 ≤ n + f
  | 0, n, g => Nat.le_refl _
  | f + 1, n, g => by
    have es : rnG (f + 1) n g = bif decide (0 < s5 (kq g 11)) && chgB g then rnG f (n + 1) (stepG g) else (n, g) := rfl
    cases hc : decide (0 < s5 (kq g 11)) && chgB g with
    | false => rw [hc] at es; rw [es]; show n ≤ _; omega
    | true => rw [hc] at es; rw [es]; have := rnG_le f (n + 1) (stepG g); show (rnG f (n + 1) (stepG g)).1 ≤ _; omega
/-- the class's run, whole -/
theorem tc_passes {lim : Nat} {p0 : Int32} {R : XRow} {post : Int32 × Int32 × Int32 × XRow × XRow × Int32 × XRow × XRow → Prop} (hb : b ≤ 600) (hR : Rel b d g) (h0 : p0 = nI lim) (hl : lim ≤ 200) (h : ∀ M P N bc z pc R', Rel b (dPq d M P N bc z pc) (rnG lim 0 g).2 → post (nI (rnG lim 0 g).1, z, pc, M, P, bc, N, R')) : wp_X4_makePasses d.1 d.2.1 d.2.2.1 d.2.2.2.1 d.2.2.2.2.1 R d.2.2.2.2.2.2.2.2.2.1 d.2.2.2.2.2.2.2.2.2.2.1 d.2.2.2.2.2.2.2.2.2.2.2 p0 post := by
  subst h0
  refine ⟨_, tc_runs (d := d) (x := d.2.2.2.2.2.2.2.2.2.2.2) hb hl lim 0 g d.2.1 d.2.2.1 d.2.2.2.1 d.2.2.2.2.1 d.2.2.2.2.2.2.2.2.2.2.1 R ?_ (by omega) (fun M P N bc z R' hq y hy => ?_)⟩
  · rw [show nI 0 = 0 from rfl, Int32.add_zero]; exact hR
  · rw [hy]; exact h _ _ _ _ _ _ _ hq
theorem tm_passes {lim : Nat} {p0 : Int32} {T p c : XRow} {post : Int32 × XRow × XRow × XRow × XRow → Prop} (hb : b ≤ 600) (hR : Rel b d g) (h0 : p0 = nI lim) (hl : lim ≤ 200) (h : ∀ T p c, post (nI (rnG lim 0 g).1, (rnG lim 0 g).2, T, p, c)) : wp_X9_runs g T p c p0 post := by
  subst h0
  exact ⟨_, tm_runs hb hl lim 0 g d T p c hR (by omega) h⟩
/-! settling -/
theorem tc_settles {x : Int32} {u3 : Int32 × Int32 × Int32 × XRow × XRow × XRow × Int32 × XRow × Int32 × XRow} {k1 k2 : Int32 → Int32 → XRow → XRow → Int32 → XRow → XRow → Prop} (hb : b ≤ 600) (hu1 : u3.2.2.2.1 = d.1) (hu2 : u3.1 = d.2.2.2.2.2.2.2.2.2.1) : ∀ (f n : Nat) (g : XRow) (M P N : XRow) (bc z : Int32) (R : XRow), Rel b (dPq d M P N bc z (x + nI n)) g → n + f = 301 → (∀ z' M' P' bc' N' R', stR f n g ≤ 300 → k1 (nI (stR f n g)) z' M' P' bc' N' R') → (∀ z' M' P' bc' N' R', stR f n g = 301 → k2 301 z' M' P' bc' N' R') → wp_X8_settlesAfter_L17 u3 k1 k2 (f + 1) (nI n) z M P bc N R
  | 0, n, g, M, P, N, bc, z, R, hR, hf, h1, h2 => by
    obtain rfl : n = 301 := by omega
    exact if_y (by decide) (h2 _ _ _ _ _ _ rfl)
  | f + 1, n, g, M, P, N, bc, z, R, hR, hf, h1, h2 => by
    have es : stR (f + 1) n g = bif chgB g then stR f (n + 1) (stepG g) else n := rfl
    refine if_n (nI_nlt (a := 300) (b := n) (by omega) (by omega)) ?_
    rw [hu1, hu2]
    refine tc_pass (d := dPq d M P N bc z (x + nI n)) hb hR (fun M' P' N' bc' z' R' hq => ?_)
    cases hc : chgB g with
    | false =>
      rw [hc] at es
      replace es : stR (f + 1) n g = n := es
      rw [es] at h1
      exact bb_f rfl (h1 _ _ _ _ _ _ (by omega))
    | true =>
      rw [hc] at es
      replace es : stR (f + 1) n g = stR f (n + 1) (stepG g) := es
      rw [es] at h1 h2
      refine bb_t rfl (fun y hy => ?_)
      have e1 : nI n + 1 = nI (n + 1) := nI_1 n
      rw [hy, e1]
      have hs := Rel_step (d := dPq d M P N bc z (x + nI n)) (pas_facts hb hR).2.2.1 hq
      have hs2 : Rel b (dPq d M' P' N' bc' z' (x + nI n + 1)) (stepG g) := hs
      rw [Int32.add_assoc, e1] at hs2
      exact tc_settles hb hu1 hu2 f (n + 1) (stepG g) M' P' N' bc' z' R' hs2 (by omega) h1 h2
theorem tm_settles {kk : Int32 → XRow → XRow → XRow → XRow → Prop} (hb : b ≤ 600) : ∀ (f n : Nat) (g : XRow) (d : PD) (T p c : XRow), Rel b d g → n + f = 301 → (∀ h' T p c, kk (nI (stR f n g)) h' T p c) → wp_X9_settlesAfter_L42 kk (f + 1) (nI n) g T p c
  | 0, n, g, d, T, p, c, hR, hf, h => by
    obtain rfl : n = 301 := by omega
    exact if_y (by decide) (h _ _ _ _)
  | f + 1, n, g, d, T, p, c, hR, hf, h => by
    have es : stR (f + 1) n g = bif chgB g then stR f (n + 1) (stepG g) else n := rfl
    refine if_n (nI_nlt (a := 300) (b := n) (by omega) (by omega)) ?_
    refine tm_goes hb hR (fun hc T' p' c' => ?_) (fun hc T' p' c' => ?_)
    · rw [hc] at es
      replace es : stR (f + 1) n g = stR f (n + 1) (stepG g) := es
      rw [es] at h
      refine bb_t rfl (fun y hy => ?_)
      have e1 : nI n + 1 = nI (n + 1) := nI_1 n
      rw [hy, e1]
      obtain ⟨⟨M, P, N, bc, z, hq⟩, _, p4, _⟩ := pas_facts hb hR
      exact tm_settles hb f (n + 1) (stepG g) _ T' p' c' (Rel_step p4 hq) (by omega) h
    · rw [hc] at es
      replace es : stR (f + 1) n g = n := es
      rw [es] at h
      exact bb_f rfl (h _ _ _ _)
theorem stR_le : ∀ (f n : Nat) (g : XRow), stR f n g ≤ n + f
  | 0, n, g => Nat.le_refl _
  | f + 1, n, g => by
    have es : stR (f + 1) n g = bif chgB g then stR f (n + 1) (stepG g) else n := rfl
    cases hc : chgB g with
    | false => rw [hc] at es; rw [es]; show n ≤ _; omega
    | true => rw [hc] at es; rw [es]; have := stR_le f (n + 1) (stepG g); show stR f (n + 1) (stepG g) ≤ _; omega
end RU
