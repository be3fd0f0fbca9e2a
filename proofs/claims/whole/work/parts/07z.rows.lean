/-! ===== history's rows ===== -/
abbrev PD : Type := XRow × XRow × XRow × XRow × Int32 × XRow × XRow × Int32 × XRow × Int32 × Int32 × Int32
def xRing (AK : Nat → Nat → Nat) : Nat → Option Nat := fun j => if j < 8 then some (AK j 0) else none
section GH
variable {X : GXt} {cc : ByteArray} {own : String} {Ts : List Cond} {tys : List (ClassId × FieldType)} {sd : xSd} {cl sl : Nat} {ws : va_W} {lv : List (Nat × Value)} {pc : Nat} {rest : List Value}
theorem g_eqi {x y : Int32} (h : x = y) (k : Gx X cl sl ws lv pc (.int y :: rest)) : Gx X cl sl ws lv pc (.int x :: rest) := by rw [h]; exact k
theorem g_aald (K : Cx X cc own Ts tys sd) {cA : ClassId} {C : String} {a n : Nat} {f : Nat → Option Nat} {i : Int32} {v : Value} (q0 t0 : Nat) (ha : ws[q0]? = some (a, .inl (cA, n, .inr (.inr (.inr (.inr f)))))) (ht : tys[t0]? = some (cA, .object C)) (hin : vp_in i n) (hv : va_rf (f i.toNatClampNeg) = v) (hd : decode cc pc = .ok (.aaload, 1)) (kk : Gx X cl sl ws lv (pc + 1) (v :: rest)) : Gx X cl sl ws lv pc (.int i :: .ref a :: rest) :=
  fun H locs ls hP hD hS hl => va_aldq K.1.1 K.1.2.1 K.2.1 hP q0 t0 ha ht hin hd (by rw [hv]; exact kk H locs ls hP hD hS hl)
theorem g_ifnull (K : Cx X cc own Ts tys sd) {x : Nat} {off : Int} (hd : decode cc pc = .ok (.ifnull off, 3)) (kk : Gx X cl sl ws lv (pc + 3) rest) : Gx X cl sl ws lv pc (.ref x :: rest) :=
  fun H locs ls hP hD hS hl => lv_ifnull K.1.1 K.1.2.1 hd (kk H locs ls hP hD hS hl)
end GH
