/-! ===== level 2: taken back; settled ===== -/
section L4
variable {b : Nat} {dn dt : PD} {g : XRow}
theorem j_undo {hn hc pasts : Int32} {hK : Nat → PD} {past : XRow} (hH : HR b hn hc hK past pasts) : ((∀ post (postX : String → Unit → Prop), postX "java/lang/IllegalStateException" () → wp_X8_undo dn hn hc hK post postX) ∧ ∀ post, post (0, pasts, 1, g) → wp_X9_undo g past pasts post) ∨ ∃ (X : PD) (hn' hc' : Int32) (g' : XRow), Rel b (cpPD dn X) g' ∧ HR b hn' hc' hK past hc' ∧ (∀ post (postX : String → Unit → Prop), post (hc', (cpPD dn X).2.2.2.2.2.2.2.2.2.1, (cpPD dn X).2.2.2.2.2.2.2.2.2.2.1, (cpPD dn X).2.2.2.2.2.2.2.2.2.2.2, (cpPD dn X).1, (cpPD dn X).2.1, (cpPD dn X).2.2.1, (cpPD dn X).2.2.2.2.1, (cpPD dn X).2.2.2.1, (cpPD dn X).2.2.2.2.2.1, (cpPD dn X).2.2.2.2.2.2.2.1, (cpPD dn X).2.2.2.2.2.2.1, (cpPD dn X).2.2.2.2.2.2.2.2.1, hn', hc') → wp_X8_undo dn hn hc hK post postX) ∧ ∀ post, post (hc', hc', 0, g') → wp_X9_undo g past pasts post := by
  obtain ⟨j, h, j1, j2, rfl, rfl, rfl, j6⟩ := hH
  by_cases h0 : h = 0
  · subst h0
    exact Or.inl ⟨fun post postX hp => if_n (by decide) hp, fun post hp => if_y rfl hp⟩
  · obtain ⟨k, rfl⟩ : ∃ k, h = k + 1 := ⟨h - 1, by omega⟩
    have e1 : nI (k + 1) - 1 = nI k := nI_pred k
    have e2 : (672 : Int32) * nI k = nI (672 * k) := pk_mul 672 k
    refine Or.inr ⟨hK j, nI ((j + 7) % 8), nI k, va_cpy past g (672 * k) 0 672, ?_, ?_, fun post postX hp => ?_, fun post hp => ?_⟩
    · have j0 := j6 0 (by omega)
      rw [show (j + 8 - 0) % 8 = j by omega] at j0
      refine Rel_copy (Rel_eq (fun x hx => ?_) j0)
      show va_cpy past g (672 * k) 0 672 x = past (672 * (k + 1 - 1 - 0) + x)
      rw [pk_cpy_in (by omega) (by omega)]
      exact congrArg past (by omega)
    · refine ⟨(j + 7) % 8, k, by omega, by omega, rfl, rfl, rfl, fun i hi => ?_⟩
      have := j6 (i + 1) (by omega)
      rw [show (j + 8 - (i + 1)) % 8 = ((j + 7) % 8 + 8 - i) % 8 by omega, show k + 1 - 1 - (i + 1) = k - 1 - i by omega] at this
      exact this
    · refine if_y (nI_lt (a := 0) (by omega) (by omega)) ⟨j, j1, rfl, ?_⟩
      rw [e1]
      exact hp
    · refine if_n (nI_ne0 (by omega) (by omega)) (fun x hx => ?_)
      rw [hx, e1, e2]
      exact tq_copies (A := 672 * k) (C := 0) rfl rfl (by omega) (by omega) (by omega) (by omega) hp
/-- a pass that is tried -/
theorem j_settled {spare trial part come : XRow} (hb : b ≤ 600) (hR : Rel b dn g) : ((∀ post (postX : String → Unit → Prop), postX "java/lang/IllegalStateException" () → wp_X8_isSettled dn dt post postX) ∧ ∀ post, post (false, 1, g, spare, trial, part, come) → wp_X9_isSettled g spare trial part come post) ∨ ∃ v : Bool, (∀ post (postX : String → Unit → Prop), (∀ (y0 : Int32) (y1 : Int32) (y2 : Int32) (y3 : XRow) (y4 : XRow) (y5 : XRow) (y6 : Int32) (y7 : XRow) (y8 : Int32) (y9 : XRow) (y10 : XRow), post (v, y0, y1, y2, y3, y4, y5, y6, y7, y8, y9, y10)) → wp_X8_isSettled dn dt post postX) ∧ ∀ post, (∀ g' sp T p c, (∀ x, x < 672 → g' x = g x) → post (v, 0, g', sp, T, p, c)) → wp_X9_isSettled g spare trial part come post := by
  obtain ⟨e0, h6⟩ := IM_mc (Inv_M hR.1)
  by_cases h0 : cn (g 0) = 0
  · refine Or.inl ⟨fun post postX hp => if_n ?_ hp, fun post hp => ⟨v672 (n := 0) (by omega), if_y ?_ hp⟩⟩
    · rw [Rel_mc hR, e0, h0]; decide
    · show g 0 = 0
      rw [e0, h0]; rfl
  · have pos : 0 < dn.2.2.2.2.2.2.2.2.2.1 := by rw [Rel_mc hR, e0]; exact nI_lt (a := 0) (by omega) (by omega)
    have ne : ¬ g ((0 : Int32).toNatClampNeg) = 0 := by
      show ¬ g 0 = 0
      rw [e0]; exact nI_ne0 (by omega) (by omega)
    have hR' : Rel b (cpPD dt dn) g := Rel_copy hR
    have cls : ∀ post (postX : String → Unit → Prop), (∀ (y0 : Int32) (y1 : Int32) (y2 : Int32) (y3 : XRow) (y4 : XRow) (y5 : XRow) (y6 : Int32) (y7 : XRow) (y8 : Int32) (y9 : XRow) (y10 : XRow), post (!chgB g, y0, y1, y2, y3, y4, y5, y6, y7, y8, y9, y10)) → wp_X8_isSettled dn dt post postX := fun post postX hp => by
      refine if_y pos (e_pcopy (tc_pass (d := cpPD dt dn) hb hR' (fun M P N bc z R' _ => ?_)))
      cases hc : chgB g with
      | true => rw [hc] at hp; exact bb_t rfl (hp _ _ _ _ _ _ _ _ _ _ _)
      | false => rw [hc] at hp; exact bb_f rfl (hp _ _ _ _ _ _ _ _ _ _ _)
    have ha : ∀ x, x < 672 → va_cpy g spare 0 0 672 x = g x := fun x hx => cp_row hx
    have back : ∀ (v : XRow), ∀ x, x < 672 → va_cpy (va_cpy g spare 0 0 672) v 0 0 672 x = g x := fun v x hx => by rw [cp_row hx, ha x hx]
    refine Or.inr ⟨!chgB g, cls, fun post hp => ⟨v672 (n := 0) (by omega), if_n ne (tq_copies (A := 0) (C := 0) rfl rfl (by omega) (by omega) (by omega) (by omega) (tm_goes hb hR (fun hc T p c => bb_t rfl ?_) (fun hc T p c => bb_f rfl ?_)))⟩⟩
    · rw [hc] at hp
      exact tq_copies (A := 0) (C := 0) rfl rfl (by omega) (by omega) (by omega) (by omega) (hp _ _ _ _ _ (back _))
    · rw [hc] at hp
      exact tq_copies (A := 0) (C := 0) rfl rfl (by omega) (by omega) (by omega) (by omega) (hp _ _ _ _ _ (back _))
theorem j_settles {spare trial part come : XRow} (hb : b ≤ 600) (hR : Rel b dn g) : ((∀ post (postX : String → _ → Prop), (∀ (y0 : Int32) (y1 : Int32) (y2 : Int32) (y3 : XRow) (y4 : XRow) (y5 : XRow) (y6 : Int32) (y7 : XRow) (y8 : Int32) (y9 : XRow) (y10 : XRow), postX "java/lang/IllegalStateException" (y0, y1, y2, y3, y4, y5, y6, y7, y8, y9, y10)) → wp_X8_settlesAfter dn dt post postX) ∧ ∀ post, post (0, 1, g, spare, trial, part, come) → wp_X9_settlesAfter g spare trial part come post) ∨ (∃ v, (∀ post (postX : String → _ → Prop), (∀ (y0 : Int32) (y1 : Int32) (y2 : Int32) (y3 : XRow) (y4 : XRow) (y5 : XRow) (y6 : Int32) (y7 : XRow) (y8 : Int32) (y9 : XRow) (y10 : XRow), post (v, y0, y1, y2, y3, y4, y5, y6, y7, y8, y9, y10)) → wp_X8_settlesAfter dn dt post postX) ∧ ∀ post, (∀ g' sp T p c, (∀ x, x < 672 → g' x = g x) → post (v, 0, g', sp, T, p, c)) → wp_X9_settlesAfter g spare trial part come post) ∨ ((∀ post (postX : String → _ → Prop), (∀ (y0 : Int32) (y1 : Int32) (y2 : Int32) (y3 : XRow) (y4 : XRow) (y5 : XRow) (y6 : Int32) (y7 : XRow) (y8 : Int32) (y9 : XRow) (y10 : XRow), postX "java/util/NoSuchElementException" (y0, y1, y2, y3, y4, y5, y6, y7, y8, y9, y10)) → wp_X8_settlesAfter dn dt post postX) ∧ ∀ post, (∀ g' sp T p c, (∀ x, x < 672 → g' x = g x) → post (0, 2, g', sp, T, p, c)) → wp_X9_settlesAfter g spare trial part come post) := by
  obtain ⟨e0, h6⟩ := IM_mc (Inv_M hR.1)
  by_cases h0 : cn (g 0) = 0
  · refine Or.inl ⟨fun post postX hp => if_n ?_ (hp _ _ _ _ _ _ _ _ _ _ _), fun post hp => ⟨v672 (n := 0) (by omega), if_y ?_ hp⟩⟩
    · rw [Rel_mc hR, e0, h0]; decide
    · show g 0 = 0
      rw [e0, h0]; rfl
  · have pos : 0 < dn.2.2.2.2.2.2.2.2.2.1 := by rw [Rel_mc hR, e0]; exact nI_lt (a := 0) (by omega) (by omega)
    have ne : ¬ g ((0 : Int32).toNatClampNeg) = 0 := by
      show ¬ g 0 = 0
      rw [e0]; exact nI_ne0 (by omega) (by omega)
    have hR' : Rel b (dPq (cpPD dt dn) (cpPD dt dn).2.1 (cpPD dt dn).2.2.1 (cpPD dt dn).2.2.2.1 (cpPD dt dn).2.2.2.2.1 (cpPD dt dn).2.2.2.2.2.2.2.2.2.2.1 (dn.2.2.2.2.2.2.2.2.2.2.2 + nI 0)) g := by
      rw [show nI 0 = 0 from rfl, Int32.add_zero]
      exact Rel_copy hR
    have ha : ∀ x, x < 672 → va_cpy g spare 0 0 672 x = g x := fun x hx => cp_row hx
    have back : ∀ (v : XRow), ∀ x, x < 672 → va_cpy (va_cpy g spare 0 0 672) v 0 0 672 x = g x := fun v x hx => by rw [cp_row hx, ha x hx]
    have hle := stR_le 301 0 g
    by_cases h3 : stR 301 0 g ≤ 300
    · refine Or.inr (Or.inl ⟨nI (stR 301 0 g), fun post postX hp => if_y pos (e_pcopy ⟨302, tc_settles (d := cpPD dt dn) (x := dn.2.2.2.2.2.2.2.2.2.2.2) hb rfl rfl 301 0 g _ _ _ _ _ _ hR' (by omega) (fun _ _ _ _ _ _ _ => hp _ _ _ _ _ _ _ _ _ _ _) (fun _ _ _ _ _ _ h => by omega)⟩), fun post hp => ⟨v672 (n := 0) (by omega), if_n ne (tq_copies (A := 0) (C := 0) rfl rfl (by omega) (by omega) (by omega) (by omega) ⟨302, tm_settles hb 301 0 g dn _ _ _ hR (by omega) (fun h' T p c => tq_copies (A := 0) (C := 0) rfl rfl (by omega) (by omega) (by omega) (by omega) (if_y (nI_le (b := 300) h3 (by omega)) (hp _ _ _ _ _ (back _))))⟩)⟩⟩)
    · refine Or.inr (Or.inr ⟨fun post postX hp => if_y pos (e_pcopy ⟨302, tc_settles (d := cpPD dt dn) (x := dn.2.2.2.2.2.2.2.2.2.2.2) hb rfl rfl 301 0 g _ _ _ _ _ _ hR' (by omega) (fun _ _ _ _ _ _ h => absurd h h3) (fun _ _ _ _ _ _ _ => hp _ _ _ _ _ _ _ _ _ _ _)⟩), fun post hp => ⟨v672 (n := 0) (by omega), if_n ne (tq_copies (A := 0) (C := 0) rfl rfl (by omega) (by omega) (by omega) (by omega) ⟨302, tm_settles hb 301 0 g dn _ _ _ hR (by omega) (fun h' T p c => tq_copies (A := 0) (C := 0) rfl rfl (by omega) (by omega) (by omega) (by omega) (if_n (nI_ge (a := 300) (by omega) (by omega)) (hp _ _ _ _ _ (back _))))⟩)⟩⟩)
end L4
