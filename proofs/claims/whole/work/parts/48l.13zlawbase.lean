/-! ===== rows for the law's own body ===== -/
abbrev xI2c (x : Int32) : Int32 := (x.toUInt32 % 65536).toInt32
section GL
variable {X : GXt} {cc : ByteArray} {own : String} {Ts : List Cond} {tys : List (ClassId × FieldType)} {sd : xSd} {cl sl : Nat} {ws : va_W} {lv : List (Nat × Value)} {pc : Nat} {rest : List Value}
theorem g_sld (K : Cx X cc own Ts tys sd) {b L : Nat} {xs : Nat → Int32} (hX : va_X b L xs (gxS X) (gxS X).heap) (hbl : b < (gxS X).heap.size) (hbA : ¬ gxA X b) {i : Int32} (hin : vp_in i L) (hd : decode cc pc = .ok (.iaload, 1)) (kk : Gx X cl sl ws lv (pc + 1) (.int (xs i.toNatClampNeg) :: rest)) : Gx X cl sl ws lv pc (.int i :: .ref b :: rest) :=
  fun H locs ls hP hD hS hl => va_sld K.1.1 K.1.2.1 hX hbl hbA hS hin hd (kk H locs ls hP hD hS hl)
theorem g_slenS (K : Cx X cc own Ts tys sd) {b L : Nat} {xs : Nat → Int32} (hX : va_X b L xs (gxS X) (gxS X).heap) (hbl : b < (gxS X).heap.size) (hbA : ¬ gxA X b) (hd : decode cc pc = .ok (.arraylength, 1)) (kk : Gx X cl sl ws lv (pc + 1) (.int (Int32.ofNat L) :: rest)) : Gx X cl sl ws lv pc (.ref b :: rest) :=
  fun H locs ls hP hD hS hl => va_slen K.1.1 K.1.2.1 hX hbl hbA hS hd (kk H locs ls hP hD hS hl)
end GL
theorem rmOk_in {R rm : Room} {maxL cl sl : Nat} (h : (decide (rm.frames + 1 ≤ R.frames) && decide (8 + (maxL + 11) + rm.locals ≤ R.locals)) = true) (h1 : cl + rm.cells ≤ R.cells) (h2 : sl + rm.slots ≤ R.slots) : rmOk R rm maxL cl sl = true := by
  simp only [Bool.and_eq_true, decide_eq_true_eq] at h
  simp only [rmOk, Bool.and_eq_true, decide_eq_true_eq]
  exact ⟨h.1, h.2, h1, h2⟩
