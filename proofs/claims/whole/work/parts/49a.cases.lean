/-! ===== level 2: the law's cases ===== -/
/-- the letters -/
def RT (tL : XRow) (tn : Int32) (mtext : XRow) (ml : Int32) (n : Nat) : Prop := n ≤ 80 ∧ tn = nI n ∧ ml = nI n ∧ ∀ x, x < n → mtext x = tL x
theorem RT_0 {tL mtext : XRow} : RT tL 0 mtext 0 0 := ⟨by omega, rfl, rfl, fun x hx => absurd hx (Nat.not_lt_zero x)⟩
theorem RS2_up {b b2 : Nat} {sv mhk : Int32} {ds : PD} {mkept : XRow} (h : RS2 b sv ds mkept mhk) (hb : b ≤ b2) : RS2 b2 sv ds mkept mhk := by
  rcases h with h | ⟨h1, h2, h3⟩
  · exact Or.inl h
  · exact Or.inr ⟨h1, h2, Rel_up h3 hb⟩
/-- the two sides after c calls -/
def LwR (c : Nat) (sv : Int32) (dn : PD) (ds : PD) (hn : Int32) (hc : Int32) (hK : Nat → PD) (rP : XRow) (rL : Int32) (tL : XRow) (tn : Int32) (mg : XRow) (mkept : XRow) (mpast : XRow) (mreport : XRow) (mtext : XRow) (mhasKept : Int32) (mpasts : Int32) (mreports : Int32) (mlength : Int32) : Prop := ∃ b n, b + n = c ∧ Rel b dn mg ∧ RS2 b sv ds mkept mhasKept ∧ HR b hn hc hK mpast mpasts ∧ RR rP rL mreport mreports ∧ RT tL tn mtext mlength n
abbrev KT := Int32 → PD → PD → PD → Int32 → Int32 → (Nat → PD) → XRow → Int32 → XRow → XRow → Int32 → Int32 → Int32 → XRow → XRow → XRow → XRow → XRow → XRow → XRow → XRow → XRow → XRow → XRow → XRow → Int32 → Int32 → Int32 → Int32 → Int32 → Int32 → Int32 → Int32 → Int32 → Int32 → (Nat → Int64) → (Nat → UInt64) → Prop
def KO (c : Nat) (k : KT) : Prop := ∀ (sv : Int32) (dn : PD) (dt : PD) (ds : PD) (hn : Int32) (hc : Int32) (hK : Nat → PD) (rP : XRow) (rL : Int32) (tL : XRow) (tC : XRow) (tn : Int32) (tp : Int32) (tc : Int32) (mg : XRow) (mkept : XRow) (mspare : XRow) (mtrial : XRow) (mpast : XRow) (mreport : XRow) (mpart : XRow) (mcome : XRow) (morder : XRow) (mtext : XRow) (mtold : XRow) (mahead : XRow) (mhasKept : Int32) (mpasts : Int32) (mreports : Int32) (mthrown : Int32) (mordering : Int32) (mdetail : Int32) (mlength : Int32) (mspot : Int32) (mnumber : Int32) (mtolds : Int32) (vo : Nat → Int64) (vd : Nat → UInt64), LwR c sv dn ds hn hc hK rP rL tL tn mg mkept mpast mreport mtext mhasKept mpasts mreports mlength → k sv dn dt ds hn hc hK rP rL tL tC tn tp tc mg mkept mspare mtrial mpast mreport mpart mcome morder mtext mtold mahead mhasKept mpasts mreports mthrown mordering mdetail mlength mspot mnumber mtolds vo vd
theorem ko {c : Nat} {k : KT} (hk : KO c k) {sv : Int32} {dn : PD} {dt : PD} {ds : PD} {hn : Int32} {hc : Int32} {hK : Nat → PD} {rP : XRow} {rL : Int32} {tL : XRow} {tC : XRow} {tn : Int32} {tp : Int32} {tc : Int32} {mg : XRow} {mkept : XRow} {mspare : XRow} {mtrial : XRow} {mpast : XRow} {mreport : XRow} {mpart : XRow} {mcome : XRow} {morder : XRow} {mtext : XRow} {mtold : XRow} {mahead : XRow} {mhasKept : Int32} {mpasts : Int32} {mreports : Int32} {mthrown : Int32} {mordering : Int32} {mdetail : Int32} {mlength : Int32} {mspot : Int32} {mnumber : Int32} {mtolds : Int32} {vo : Nat → Int64} {vd : Nat → UInt64} (h : LwR c sv dn ds hn hc hK rP rL tL tn mg mkept mpast mreport mtext mhasKept mpasts mreports mlength) : k sv dn dt ds hn hc hK rP rL tL tC tn tp tc mg mkept mspare mtrial mpast mreport mpart mcome morder mtext mtold mahead mhasKept mpasts mreports mthrown mordering mdetail mlength mspot mnumber mtolds vo vd := hk sv dn dt ds hn hc hK rP rL tL tC tn tp tc mg mkept mspare mtrial mpast mreport mpart mcome morder mtext mtold mahead mhasKept mpasts mreports mthrown mordering mdetail mlength mspot mnumber mtolds vo vd h
section LC
variable {c b n : Nat} {sv : Int32} {dn : PD} {ds : PD} {hn : Int32} {hc : Int32} {hK : Nat → PD} {rP : XRow} {rL : Int32} {tL : XRow} {tn : Int32} {mg : XRow} {mkept : XRow} {mpast : XRow} {mreport : XRow} {mtext : XRow} {mhasKept : Int32} {mpasts : Int32} {mreports : Int32} {mlength : Int32}
theorem RL_st (hbn : b + n = c) (hR : Rel (b + 1) dn mg) (hS : RS2 b sv ds mkept mhasKept) (hH : HR b hn hc hK mpast mpasts) (hRR : RR rP rL mreport mreports) (hT : RT tL tn mtext mlength n) : LwR (c + 1) sv dn ds hn hc hK rP rL tL tn mg mkept mpast mreport mtext mhasKept mpasts mreports mlength := ⟨b + 1, n, by omega, hR, RS2_up hS (Nat.le_succ b), HR_up hH (Nat.le_succ b), hRR, hT⟩
theorem RL_p (hb : b ≤ c) (hR : Rel b dn mg) (hS : RS2 b sv ds mkept mhasKept) (hH : HR b hn hc hK mpast mpasts) (hRR : RR rP rL mreport mreports) : LwR c sv dn ds hn hc hK rP rL tL 0 mg mkept mpast mreport mtext mhasKept mpasts mreports 0 := ⟨c, 0, rfl, Rel_up hR hb, RS2_up hS hb, HR_up hH hb, hRR, RT_0⟩
theorem RL_hp {b1 : Nat} (hb : b ≤ c) (hb1 : b1 ≤ c) (hR : Rel b1 dn mg) (hS : RS2 b sv ds mkept mhasKept) (hH : HR b hn hc hK mpast mpasts) (hRR : RR rP rL mreport mreports) : LwR c sv dn ds hn hc hK rP rL tL 0 mg mkept mpast mreport mtext mhasKept mpasts mreports 0 := ⟨c, 0, rfl, Rel_up hR hb1, RS2_up hS hb, HR_up hH hb, hRR, RT_0⟩
end LC
theorem Rel_o {b : Nat} {d : PD} {g o R : XRow} (h : Rel b d g) : Rel b (d.1, d.2.1, d.2.2.1, d.2.2.2.1, d.2.2.2.2.1, o, d.2.2.2.2.2.2.1, d.2.2.2.2.2.2.2.1, R, d.2.2.2.2.2.2.2.2.2.1, d.2.2.2.2.2.2.2.2.2.2.1, d.2.2.2.2.2.2.2.2.2.2.2) g := h
theorem vI {i : Int32} {I L : Nat} (hi : i = nI I) (hI : I + 6 ≤ L) (hL : L < 2 ^ 31) (q : Nat) (hq : q ≤ 5 := by omega) : vp_in (i + nI q) L := by
  rw [hi, nI_add]
  exact vp_in_nI (by omega) hL
/-! ends -/
theorem finQ {A : Prop} {x : Int32} (h : A) : (x = x → A) ∧ (¬ x = x → False) := ⟨fun _ => h, fun h2 => h2 rfl⟩
theorem finD {A B C : Prop} {y : UInt64} {vo : Nat → UInt64} (hy : Op.cmpValue (FP.dcmp y y) .l = 0) (h : A) : ((0 : Int32) = 0 → (((0 : Int32) = 0 → (vp_in 0 1 ∧ ((Op.cmpValue (FP.dcmp ((vf_upd vo ((0 : Int32).toNatClampNeg) y) ((0 : Int32).toNatClampNeg)) y) .l = 0 → A) ∧ (¬ Op.cmpValue (FP.dcmp ((vf_upd vo ((0 : Int32).toNatClampNeg) y) ((0 : Int32).toNatClampNeg)) y) .l = 0 → C)))) ∧ (¬ (0 : Int32) = 0 → B))) ∧ (¬ (0 : Int32) = 0 → False) := by
  have e : vf_upd vo ((0 : Int32).toNatClampNeg) y ((0 : Int32).toNatClampNeg) = y := if_pos rfl
  rw [e]
  exact ⟨fun _ => ⟨fun _ => ⟨vpz, fun _ => h, fun h2 => absurd hy h2⟩, fun h2 => absurd rfl h2⟩, fun h2 => absurd rfl h2⟩
theorem finW {A B C D : Prop} {y : UInt64} {vo : Nat → UInt64} (hn : D) (hy : Op.cmpValue (FP.dcmp y y) .l = 0) (h : A) : ((0 : Int32) = 0 → (((0 : Int32) = 0 → (vp_in 0 1 ∧ (D ∧ ((Op.cmpValue (FP.dcmp ((vf_upd vo ((0 : Int32).toNatClampNeg) y) ((0 : Int32).toNatClampNeg)) y) .l = 0 → A) ∧ (¬ Op.cmpValue (FP.dcmp ((vf_upd vo ((0 : Int32).toNatClampNeg) y) ((0 : Int32).toNatClampNeg)) y) .l = 0 → C))))) ∧ (¬ (0 : Int32) = 0 → B))) ∧ (¬ (0 : Int32) = 0 → False) := by
  have e : vf_upd vo ((0 : Int32).toNatClampNeg) y ((0 : Int32).toNatClampNeg) = y := if_pos rfl
  rw [e]
  exact ⟨fun _ => ⟨fun _ => ⟨vpz, hn, fun _ => h, fun h2 => absurd hy h2⟩, fun h2 => absurd rfl h2⟩, fun h2 => absurd rfl h2⟩
theorem finT {A B C : Prop} {vo : Nat → Int64} (h : A) : ((0 : Int32) = 0 → (((0 : Int32) = 0 → (vp_in 0 1 ∧ ((true = true → ((lg_cmp ((vp_updL vo ((0 : Int32).toNatClampNeg) 1) ((0 : Int32).toNatClampNeg)) 1 = 0 → A) ∧ (¬ lg_cmp ((vp_updL vo ((0 : Int32).toNatClampNeg) 1) ((0 : Int32).toNatClampNeg)) 1 = 0 → False))) ∧ (true = false → C)))) ∧ (¬ (0 : Int32) = 0 → B))) ∧ (¬ (0 : Int32) = 0 → False) := by
  have e : lg_cmp ((vp_updL vo ((0 : Int32).toNatClampNeg) 1) ((0 : Int32).toNatClampNeg)) 1 = 0 := by
    rw [pk_uLs]; exact lg_same 1
  exact ⟨fun _ => ⟨fun _ => ⟨vpz, fun _ => ⟨fun _ => h, fun h2 => absurd e h2⟩, fun h2 => Bool.noConfusion h2⟩, fun h2 => absurd rfl h2⟩, fun h2 => absurd rfl h2⟩
theorem finF {A B C : Prop} {vo : Nat → Int64} (h : A) : ((0 : Int32) = 0 → (((0 : Int32) = 0 → (vp_in 0 1 ∧ ((false = true → C) ∧ (false = false → ((lg_cmp ((vp_updL vo ((0 : Int32).toNatClampNeg) 0) ((0 : Int32).toNatClampNeg)) 0 = 0 → A) ∧ (¬ lg_cmp ((vp_updL vo ((0 : Int32).toNatClampNeg) 0) ((0 : Int32).toNatClampNeg)) 0 = 0 → False)))))) ∧ (¬ (0 : Int32) = 0 → B))) ∧ (¬ (0 : Int32) = 0 → False) := by
  have e : lg_cmp ((vp_updL vo ((0 : Int32).toNatClampNeg) 0) ((0 : Int32).toNatClampNeg)) 0 = 0 := by
    rw [pk_uLs]; exact lg_same 0
  exact ⟨fun _ => ⟨fun _ => ⟨vpz, fun h2 => Bool.noConfusion h2, fun _ => ⟨fun _ => h, fun h2 => absurd e h2⟩⟩, fun h2 => absurd rfl h2⟩, fun h2 => absurd rfl h2⟩
/-! letters -/
theorem xI2c_nI (x : Int32) : ∃ q, q < 65536 ∧ xI2c x = nI q := by
  refine ⟨(x.toUInt32 % 65536).toNat, ?_, ?_⟩
  · rw [UInt32.toNat_mod]
    exact Nat.mod_lt _ (by decide)
  · show (x.toUInt32 % 65536).toInt32 = _
    generalize x.toUInt32 % 65536 = y
    refine Int32.toBitVec_inj.mp (BitVec.eq_of_toNat_eq ?_)
    show y.toNat = y.toNat % 2 ^ 32
    exact (Nat.mod_eq_of_lt y.toNat_lt).symm
theorem nar_c (x : Int32) : vp_nar .char (xI2c x) = xI2c x := by
  obtain ⟨q, hq, e⟩ := xI2c_nI x
  rw [e]
  unfold vp_nar
  rw [(pk_charN hq).1]
/-! a refused command's report -/
theorem RR_P {q : Nat} {r : Nat → Int32} {g rP rP2 rep rep2 : XRow} {rL rL2 reps n1 : Int32} (h : RR rP rL rep reps) (hp : RPc q r g rL rP rL2 rP2) (hm : RPm q r g reps rep n1 rep2) (hs : stB g r = false) : RR rP2 rL2 rep2 n1 := by
  rcases hp with ⟨k0, rfl, rfl⟩ | ⟨k1, k2, rfl, md, h6⟩
  · rcases hm with ⟨_, rfl, rfl⟩ | ⟨k1, k2, _⟩
    · exact h
    · exact absurd ⟨k1, k2⟩ k0
  · rcases hm with ⟨k, _⟩ | ⟨_, _, rfl, md2, h62⟩
    · exact absurd ⟨k1, k2⟩ k
    · have hn : ¬ r 0 = 99 ∧ ¬ r 0 = 102 ∧ ¬ r 0 = 114 := by
        rw [k1]
        exact ⟨by decide, by decide, by decide⟩
      have e := (stB_115 (g := g) hn).1.symm.trans hs
      unfold sB at e
      rw [k2] at e
      have ha : agR g (cn (r 1)) ≠ 0 := fun h0 => by
        rw [decide_eq_true h0] at e
        exact Bool.noConfusion e
      rw [agD_md ha md2 md] at h62
      exact RR_six h6 h62
