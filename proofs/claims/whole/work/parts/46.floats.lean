/-! ===== level 2: numbers with a point ===== -/
theorem F64_qmin : FP.Core.Fmt.qmin FP.Core.b64 = (-1074) := by decide
theorem F64_qmax : FP.Core.Fmt.qmax FP.Core.b64 = 971 := by decide
theorem F64_tails : FP.Core.Fmt.tails FP.Core.b64 = 4503599627370496 := by decide
theorem F64_exps : FP.Core.Fmt.exps FP.Core.b64 = 2048 := by decide
theorem F64_inf {s : Bool} : FP.Core.encode FP.Core.b64 (.inf s) % 9223372036854775808 ≤ 9218868437227405312 := by
  have hs : s.toNat ≤ 1 := by cases s <;> decide
  simp only [FP.Core.encode, FP.Core.assemble, F64_tails, F64_exps]
  omega
theorem F64_enc {s : Bool} {c : Nat} {q : Int} (hc : c < 9007199254740992) (h1 : (-1074) ≤ q) (h2 : q ≤ 971) : FP.Core.encode FP.Core.b64 (.fin s c q) % 9223372036854775808 ≤ 9218868437227405312 := by
  have hs : s.toNat ≤ 1 := by cases s <;> decide
  simp only [FP.Core.encode, FP.Core.assemble, F64_tails, F64_exps, F64_qmin]
  split
  · omega
  · omega
theorem F64_bound {s : Bool} {c : Nat} {q : Int} (hc : c < 9007199254740992) (h1 : (-1074) ≤ q) : FP.Core.encode FP.Core.b64 (FP.Core.bound FP.Core.b64 s c q) % 9223372036854775808 ≤ 9218868437227405312 := by
  unfold FP.Core.bound
  rw [F64_qmax]
  split
  · exact F64_enc hc h1 (by assumption)
  · exact F64_inf
theorem F64_round {s : Bool} {A B : Nat} {e : Int} : FP.Core.encode FP.Core.b64 (FP.Core.roundRatio FP.Core.b64 s A B e) % 9223372036854775808 ≤ 9218868437227405312 := by
  unfold FP.Core.roundRatio
  split
  · rw [F64_qmin]
    exact F64_enc (by omega) (by omega) (by omega)
  · unfold FP.Core.roundAt FP.Core.settle
    have hq : (-1074) ≤ FP.Core.quantum FP.Core.b64 A B e := by
      have h := Int.le_max_left (FP.Core.Fmt.qmin FP.Core.b64) (FP.Core.leading A B + e - ((FP.Core.b64.p : Int) - 1))
      rw [F64_qmin] at h
      unfold FP.Core.quantum
      rw [F64_qmin]
      exact h
    have hp : 2 ^ FP.Core.b64.p = 9007199254740992 := by decide
    rw [hp, F64_tails]
    split
    · exact F64_bound (by assumption) hq
    · exact F64_bound (by omega) (by omega)
theorem F64_of {n : Nat} (h : n % 9223372036854775808 ≤ 9218868437227405312) : vf_n64 (UInt64.ofNat n) := by
  unfold vf_n64
  rw [UInt64.le_iff_toNat_le, UInt64.toNat_and]
  have e1 : (0x7fffffffffffffff : UInt64).toNat = 2 ^ 63 - 1 := rfl
  have e2 : (0x7ff0000000000000 : UInt64).toNat = 9218868437227405312 := rfl
  have e3 : (UInt64.ofNat n).toNat = n % 18446744073709551616 := rfl
  rw [e1, e2, e3, Nat.and_two_pow_sub_one_eq_mod]
  omega
theorem F64_ofx {n : Nat} (h : n % 9223372036854775808 ≤ 9218868437227405312) : (UInt64.ofNat n).toNat % 9223372036854775808 ≤ 9218868437227405312 := by
  have e3 : (UInt64.ofNat n).toNat = n % 18446744073709551616 := rfl
  rw [e3]
  omega
/-- finite, not below 0 -/
def F64p (n : Nat) : Prop := ∃ c q, FP.Core.decode FP.Core.b64 n = .fin false c q
def F64q (n : Nat) : Prop := ∃ c q, 0 < c ∧ FP.Core.decode FP.Core.b64 n = .fin false c q
theorem F64_dec {n : Nat} (h1 : 4503599627370496 ≤ n) (h2 : n < 9218868437227405312) : F64q n := by
  refine ⟨4503599627370496 + n % 4503599627370496, (-1074) + (((n / 4503599627370496 % 2048 : Nat) : Int) - 1), by omega, ?_⟩
  unfold FP.Core.decode FP.Core.fieldE FP.Core.fieldT FP.Core.fieldS
  rw [F64_tails, F64_exps, F64_qmin, if_neg (by omega), if_neg (by omega)]
  have e : n / 4503599627370496 / 2048 % 2 = 0 := by omega
  rw [e]
  rfl
theorem F64_div {a b : UInt64} (ha : F64p a.toNat) (hb : F64q b.toNat) : FP.Core.encode FP.Core.b64 (FP.Core.quotient FP.Core.b64 (FP.Core.decode FP.Core.b64 a.toNat) (FP.Core.decode FP.Core.b64 b.toNat)) % 9223372036854775808 ≤ 9218868437227405312 := by
  obtain ⟨c, q, e1⟩ := ha
  obtain ⟨d, r, h0, e2⟩ := hb
  rw [e1, e2]
  have e : FP.Core.quotient FP.Core.b64 (.fin false c q) (.fin false d r) = FP.Core.roundRatio FP.Core.b64 (false != false) c d (q - r) := if_neg (by omega)
  rw [e]
  exact F64_round
theorem F64_nn {n : Nat} (h : n % 9223372036854775808 ≤ 9218868437227405312) : FP.Core.decode FP.Core.b64 n ≠ .nan := by
  unfold FP.Core.decode FP.Core.fieldE FP.Core.fieldT
  rw [F64_tails, F64_exps]
  split
  · rw [if_pos (by omega)]
    exact fun h => by cases h
  · split
    · exact fun h => by cases h
    · exact fun h => by cases h
theorem F64_self {n : Nat} (h : n % 9223372036854775808 ≤ 9218868437227405312) : FP.Core.order (FP.Core.decode FP.Core.b64 n) (FP.Core.decode FP.Core.b64 n) = some .eq := by
  have h0 := F64_nn h
  generalize FP.Core.decode FP.Core.b64 n = d at h0
  cases d with
  | nan => exact absurd rfl h0
  | inf s => cases s <;> rfl
  | fin s c q =>
    show some (compare _ _) = some .eq
    simp only [compare, compareOfLessAndEq]
    rw [if_neg (Int.lt_irrefl _), if_pos True.intro]
/-- a small whole number -/
theorem F64_lead {n : Nat} (h0 : 0 < n) : FP.Core.leading n 1 = (n.log2 : Int) := by
  have h1 : 2 ^ n.log2 ≤ n := Nat.log2_self_le (by omega)
  have e1 : (1 : Nat).log2 = 0 := by decide
  have e : FP.Core.leading n 1 = (if 1 * 2 ^ ((n.log2 : Int) - ((1 : Nat).log2 : Int)).toNat ≤ n * 2 ^ (-((n.log2 : Int) - ((1 : Nat).log2 : Int))).toNat then (n.log2 : Int) - ((1 : Nat).log2 : Int) else (n.log2 : Int) - ((1 : Nat).log2 : Int) - 1) := rfl
  rw [e, e1]
  have e2 : ((n.log2 : Int) - ((0 : Nat) : Int)).toNat = n.log2 := by omega
  have e3 : (-((n.log2 : Int) - ((0 : Nat) : Int))).toNat = 0 := by omega
  rw [e2, e3, if_pos (by omega)]
  omega
theorem F64_int {n : Nat} (h0 : 0 < n) (h : n < 2 ^ 20) : F64q (FP.i2d (nI n)).toNat := by
  have hk : n.log2 < 20 := (Nat.log2_lt (by omega)).mpr h
  have h1 : 2 ^ n.log2 ≤ n := Nat.log2_self_le (by omega)
  have h2 : n < 2 ^ (n.log2 + 1) := Nat.lt_log2_self
  have eq : FP.Core.quantum FP.Core.b64 n 1 0 = (n.log2 : Int) - 52 := by
    unfold FP.Core.quantum
    rw [F64_lead h0, F64_qmin]
    have e : ((FP.Core.b64.p : Int) - 1) = 52 := by decide
    rw [e]
    omega
  have ea : n * 2 ^ (52 - n.log2) < 9007199254740992 ∧ 4503599627370496 ≤ n * 2 ^ (52 - n.log2) := by
    have e1 : 2 ^ n.log2 * 2 ^ (52 - n.log2) = 4503599627370496 := by
      rw [← Nat.pow_add, show n.log2 + (52 - n.log2) = 52 by omega]
    have e2 : 2 ^ (n.log2 + 1) * 2 ^ (52 - n.log2) = 9007199254740992 := by
      rw [← Nat.pow_add, show n.log2 + 1 + (52 - n.log2) = 52 + 1 by omega]
    have m1 := Nat.mul_le_mul_right (2 ^ (52 - n.log2)) h1
    have m2 := Nat.mul_lt_mul_of_pos_right h2 (Nat.two_pow_pos (52 - n.log2))
    rw [e1] at m1
    rw [e2] at m2
    exact ⟨m2, m1⟩
  have er : FP.Core.round FP.Core.b64 (FP.Core.ofInt (nI n).toInt) = .fin false (n * 2 ^ (52 - n.log2)) ((n.log2 : Int) - 52) := by
    rw [nI_toInt (by omega)]
    have e1 : FP.Core.ofInt (n : Int) = .fin false n 0 := by
      unfold FP.Core.ofInt
      rw [decide_eq_false (by omega), Int.natAbs_natCast]
    rw [e1]
    show FP.Core.roundRatio FP.Core.b64 false n 1 0 = _
    unfold FP.Core.roundRatio
    rw [if_neg (by omega), eq]
    unfold FP.Core.roundAt FP.Core.unitsNum FP.Core.unitsDen
    have e2 : ((0 : Int) - ((n.log2 : Int) - 52)).toNat = 52 - n.log2 := by omega
    have e3 : ((n.log2 : Int) - 52 - 0).toNat = 0 := by omega
    rw [e2, e3]
    have e4 : FP.Core.nearest (n * 2 ^ (52 - n.log2)) (1 * 2 ^ 0) = n * 2 ^ (52 - n.log2) := by
      unfold FP.Core.nearest
      rw [show (1 * 2 ^ 0 : Nat) = 1 from rfl, Nat.mod_one, if_pos (by omega), Nat.div_one]
    rw [e4]
    unfold FP.Core.settle FP.Core.bound
    have hp : 2 ^ FP.Core.b64.p = 9007199254740992 := by decide
    rw [hp, if_pos ea.1, F64_qmax, if_pos (by omega)]
  have en : (FP.i2d (nI n)).toNat = FP.Core.encode FP.Core.b64 (FP.Core.round FP.Core.b64 (FP.Core.ofInt (nI n).toInt)) % 18446744073709551616 := rfl
  rw [en, er]
  generalize n * 2 ^ (52 - n.log2) = c at ea
  have hn : FP.Core.encode FP.Core.b64 (.fin false c ((n.log2 : Int) - 52)) = (((n.log2 : Int) - 52 - (-1074)).toNat + 1) * 4503599627370496 + (c - 4503599627370496) := by
    simp only [FP.Core.encode, FP.Core.assemble, F64_tails, F64_exps, F64_qmin]
    rw [if_neg (by omega)]
    show (0 * 2048 + _) * _ + _ = _
    rw [Nat.zero_mul, Nat.zero_add]
  rw [hn]
  refine F64_dec ?_ ?_
  · omega
  · omega
theorem F64_zero : F64p (FP.i2d (nI 0)).toNat := ⟨0, (-1074), by decide +kernel⟩
theorem F64_intp {n : Nat} (h : n < 2 ^ 20) : F64p (FP.i2d (nI n)).toNat := by
  by_cases h0 : n = 0
  · subst h0; exact F64_zero
  · obtain ⟨c, q, _, e⟩ := F64_int (by omega) h
    exact ⟨c, q, e⟩
theorem F64_gt {n : Nat} (h : n < 2 ^ 20) : 0 < Op.cmpValue (FP.dcmp (FP.i2d (nI n)) FP.dconst0) .g ↔ 0 < n := by
  by_cases h0 : n = 0
  · subst h0
    exact ⟨fun h => absurd h (by decide +kernel), fun h => absurd h (Nat.lt_irrefl 0)⟩
  · refine ⟨fun _ => by omega, fun _ => ?_⟩
    obtain ⟨c, q, hc, e⟩ := F64_int (by omega) h
    have ez : FP.Core.decode FP.Core.b64 (FP.dconst0).toNat = .fin false 0 (-1074) := by decide +kernel
    have e1 : FP.dcmp (FP.i2d (nI n)) FP.dconst0 = some .gt := by
      show FP.Core.order (FP.Core.decode FP.Core.b64 (FP.i2d (nI n)).toNat) (FP.Core.decode FP.Core.b64 (FP.dconst0).toNat) = _
      rw [e, ez]
      show some (compare ((c * 2 ^ (q - min q (-1074)).toNat : Nat) : Int) ((0 * 2 ^ ((-1074) - min q (-1074)).toNat : Nat) : Int)) = _
      have hpos : 0 < c * 2 ^ (q - min q (-1074)).toNat := Nat.mul_pos hc (Nat.two_pow_pos _)
      rw [Nat.zero_mul]
      generalize c * 2 ^ (q - min q (-1074)).toNat = y at hpos
      simp only [compare, compareOfLessAndEq]
      rw [if_neg (by omega), if_neg (by omega)]
    rw [e1]
    show (0 : Int32) < 1
    decide
theorem F32_qmin : FP.Core.Fmt.qmin FP.Core.b32 = (-149) := by decide
theorem F32_qmax : FP.Core.Fmt.qmax FP.Core.b32 = 104 := by decide
theorem F32_tails : FP.Core.Fmt.tails FP.Core.b32 = 8388608 := by decide
theorem F32_exps : FP.Core.Fmt.exps FP.Core.b32 = 256 := by decide
theorem F32_inf {s : Bool} : FP.Core.encode FP.Core.b32 (.inf s) % 2147483648 ≤ 2139095040 := by
  have hs : s.toNat ≤ 1 := by cases s <;> decide
  simp only [FP.Core.encode, FP.Core.assemble, F32_tails, F32_exps]
  omega
theorem F32_enc {s : Bool} {c : Nat} {q : Int} (hc : c < 16777216) (h1 : (-149) ≤ q) (h2 : q ≤ 104) : FP.Core.encode FP.Core.b32 (.fin s c q) % 2147483648 ≤ 2139095040 := by
  have hs : s.toNat ≤ 1 := by cases s <;> decide
  simp only [FP.Core.encode, FP.Core.assemble, F32_tails, F32_exps, F32_qmin]
  split
  · omega
  · omega
theorem F32_bound {s : Bool} {c : Nat} {q : Int} (hc : c < 16777216) (h1 : (-149) ≤ q) : FP.Core.encode FP.Core.b32 (FP.Core.bound FP.Core.b32 s c q) % 2147483648 ≤ 2139095040 := by
  unfold FP.Core.bound
  rw [F32_qmax]
  split
  · exact F32_enc hc h1 (by assumption)
  · exact F32_inf
theorem F32_round {s : Bool} {A B : Nat} {e : Int} : FP.Core.encode FP.Core.b32 (FP.Core.roundRatio FP.Core.b32 s A B e) % 2147483648 ≤ 2139095040 := by
  unfold FP.Core.roundRatio
  split
  · rw [F32_qmin]
    exact F32_enc (by omega) (by omega) (by omega)
  · unfold FP.Core.roundAt FP.Core.settle
    have hq : (-149) ≤ FP.Core.quantum FP.Core.b32 A B e := by
      have h := Int.le_max_left (FP.Core.Fmt.qmin FP.Core.b32) (FP.Core.leading A B + e - ((FP.Core.b32.p : Int) - 1))
      rw [F32_qmin] at h
      unfold FP.Core.quantum
      rw [F32_qmin]
      exact h
    have hp : 2 ^ FP.Core.b32.p = 16777216 := by decide
    rw [hp, F32_tails]
    split
    · exact F32_bound (by assumption) hq
    · exact F32_bound (by omega) (by omega)
theorem F32_of {n : Nat} (h : n % 2147483648 ≤ 2139095040) : vf_n32 (UInt32.ofNat n) := by
  unfold vf_n32
  rw [UInt32.le_iff_toNat_le, UInt32.toNat_and]
  have e1 : (0x7fffffff : UInt32).toNat = 2 ^ 31 - 1 := rfl
  have e2 : (0x7f800000 : UInt32).toNat = 2139095040 := rfl
  have e3 : (UInt32.ofNat n).toNat = n % 4294967296 := rfl
  rw [e1, e2, e3, Nat.and_two_pow_sub_one_eq_mod]
  omega
theorem F32_ofx {n : Nat} (h : n % 2147483648 ≤ 2139095040) : (UInt32.ofNat n).toNat % 2147483648 ≤ 2139095040 := by
  have e3 : (UInt32.ofNat n).toNat = n % 4294967296 := rfl
  rw [e3]
  omega
/-- finite, not below 0 -/
def F32p (n : Nat) : Prop := ∃ c q, FP.Core.decode FP.Core.b32 n = .fin false c q
def F32q (n : Nat) : Prop := ∃ c q, 0 < c ∧ FP.Core.decode FP.Core.b32 n = .fin false c q
theorem F32_dec {n : Nat} (h1 : 8388608 ≤ n) (h2 : n < 2139095040) : F32q n := by
  refine ⟨8388608 + n % 8388608, (-149) + (((n / 8388608 % 256 : Nat) : Int) - 1), by omega, ?_⟩
  unfold FP.Core.decode FP.Core.fieldE FP.Core.fieldT FP.Core.fieldS
  rw [F32_tails, F32_exps, F32_qmin, if_neg (by omega), if_neg (by omega)]
  have e : n / 8388608 / 256 % 2 = 0 := by omega
  rw [e]
  rfl
theorem F32_div {a b : UInt32} (ha : F32p a.toNat) (hb : F32q b.toNat) : FP.Core.encode FP.Core.b32 (FP.Core.quotient FP.Core.b32 (FP.Core.decode FP.Core.b32 a.toNat) (FP.Core.decode FP.Core.b32 b.toNat)) % 2147483648 ≤ 2139095040 := by
  obtain ⟨c, q, e1⟩ := ha
  obtain ⟨d, r, h0, e2⟩ := hb
  rw [e1, e2]
  have e : FP.Core.quotient FP.Core.b32 (.fin false c q) (.fin false d r) = FP.Core.roundRatio FP.Core.b32 (false != false) c d (q - r) := if_neg (by omega)
  rw [e]
  exact F32_round
theorem F32_nn {n : Nat} (h : n % 2147483648 ≤ 2139095040) : FP.Core.decode FP.Core.b32 n ≠ .nan := by
  unfold FP.Core.decode FP.Core.fieldE FP.Core.fieldT
  rw [F32_tails, F32_exps]
  split
  · rw [if_pos (by omega)]
    exact fun h => by cases h
  · split
    · exact fun h => by cases h
    · exact fun h => by cases h
theorem F32_self {n : Nat} (h : n % 2147483648 ≤ 2139095040) : FP.Core.order (FP.Core.decode FP.Core.b32 n) (FP.Core.decode FP.Core.b32 n) = some .eq := by
  have h0 := F32_nn h
  generalize FP.Core.decode FP.Core.b32 n = d at h0
  cases d with
  | nan => exact absurd rfl h0
  | inf s => cases s <;> rfl
  | fin s c q =>
    show some (compare _ _) = some .eq
    simp only [compare, compareOfLessAndEq]
    rw [if_neg (Int.lt_irrefl _), if_pos True.intro]
/-- a small whole number -/
theorem F32_lead {n : Nat} (h0 : 0 < n) : FP.Core.leading n 1 = (n.log2 : Int) := by
  have h1 : 2 ^ n.log2 ≤ n := Nat.log2_self_le (by omega)
  have e1 : (1 : Nat).log2 = 0 := by decide
  have e : FP.Core.leading n 1 = (if 1 * 2 ^ ((n.log2 : Int) - ((1 : Nat).log2 : Int)).toNat ≤ n * 2 ^ (-((n.log2 : Int) - ((1 : Nat).log2 : Int))).toNat then (n.log2 : Int) - ((1 : Nat).log2 : Int) else (n.log2 : Int) - ((1 : Nat).log2 : Int) - 1) := rfl
  rw [e, e1]
  have e2 : ((n.log2 : Int) - ((0 : Nat) : Int)).toNat = n.log2 := by omega
  have e3 : (-((n.log2 : Int) - ((0 : Nat) : Int))).toNat = 0 := by omega
  rw [e2, e3, if_pos (by omega)]
  omega
theorem F32_int {n : Nat} (h0 : 0 < n) (h : n < 2 ^ 20) : F32q (FP.i2f (nI n)).toNat := by
  have hk : n.log2 < 20 := (Nat.log2_lt (by omega)).mpr h
  have h1 : 2 ^ n.log2 ≤ n := Nat.log2_self_le (by omega)
  have h2 : n < 2 ^ (n.log2 + 1) := Nat.lt_log2_self
  have eq : FP.Core.quantum FP.Core.b32 n 1 0 = (n.log2 : Int) - 23 := by
    unfold FP.Core.quantum
    rw [F32_lead h0, F32_qmin]
    have e : ((FP.Core.b32.p : Int) - 1) = 23 := by decide
    rw [e]
    omega
  have ea : n * 2 ^ (23 - n.log2) < 16777216 ∧ 8388608 ≤ n * 2 ^ (23 - n.log2) := by
    have e1 : 2 ^ n.log2 * 2 ^ (23 - n.log2) = 8388608 := by
      rw [← Nat.pow_add, show n.log2 + (23 - n.log2) = 23 by omega]
    have e2 : 2 ^ (n.log2 + 1) * 2 ^ (23 - n.log2) = 16777216 := by
      rw [← Nat.pow_add, show n.log2 + 1 + (23 - n.log2) = 23 + 1 by omega]
    have m1 := Nat.mul_le_mul_right (2 ^ (23 - n.log2)) h1
    have m2 := Nat.mul_lt_mul_of_pos_right h2 (Nat.two_pow_pos (23 - n.log2))
    rw [e1] at m1
    rw [e2] at m2
    exact ⟨m2, m1⟩
  have er : FP.Core.round FP.Core.b32 (FP.Core.ofInt (nI n).toInt) = .fin false (n * 2 ^ (23 - n.log2)) ((n.log2 : Int) - 23) := by
    rw [nI_toInt (by omega)]
    have e1 : FP.Core.ofInt (n : Int) = .fin false n 0 := by
      unfold FP.Core.ofInt
      rw [decide_eq_false (by omega), Int.natAbs_natCast]
    rw [e1]
    show FP.Core.roundRatio FP.Core.b32 false n 1 0 = _
    unfold FP.Core.roundRatio
    rw [if_neg (by omega), eq]
    unfold FP.Core.roundAt FP.Core.unitsNum FP.Core.unitsDen
    have e2 : ((0 : Int) - ((n.log2 : Int) - 23)).toNat = 23 - n.log2 := by omega
    have e3 : ((n.log2 : Int) - 23 - 0).toNat = 0 := by omega
    rw [e2, e3]
    have e4 : FP.Core.nearest (n * 2 ^ (23 - n.log2)) (1 * 2 ^ 0) = n * 2 ^ (23 - n.log2) := by
      unfold FP.Core.nearest
      rw [show (1 * 2 ^ 0 : Nat) = 1 from rfl, Nat.mod_one, if_pos (by omega), Nat.div_one]
    rw [e4]
    unfold FP.Core.settle FP.Core.bound
    have hp : 2 ^ FP.Core.b32.p = 16777216 := by decide
    rw [hp, if_pos ea.1, F32_qmax, if_pos (by omega)]
  have en : (FP.i2f (nI n)).toNat = FP.Core.encode FP.Core.b32 (FP.Core.round FP.Core.b32 (FP.Core.ofInt (nI n).toInt)) % 4294967296 := rfl
  rw [en, er]
  generalize n * 2 ^ (23 - n.log2) = c at ea
  have hn : FP.Core.encode FP.Core.b32 (.fin false c ((n.log2 : Int) - 23)) = (((n.log2 : Int) - 23 - (-149)).toNat + 1) * 8388608 + (c - 8388608) := by
    simp only [FP.Core.encode, FP.Core.assemble, F32_tails, F32_exps, F32_qmin]
    rw [if_neg (by omega)]
    show (0 * 256 + _) * _ + _ = _
    rw [Nat.zero_mul, Nat.zero_add]
  rw [hn]
  refine F32_dec ?_ ?_
  · omega
  · omega
theorem F32_zero : F32p (FP.i2f (nI 0)).toNat := ⟨0, (-149), by decide +kernel⟩
theorem F32_intp {n : Nat} (h : n < 2 ^ 20) : F32p (FP.i2f (nI n)).toNat := by
  by_cases h0 : n = 0
  · subst h0; exact F32_zero
  · obtain ⟨c, q, _, e⟩ := F32_int (by omega) h
    exact ⟨c, q, e⟩
theorem F32_gt {n : Nat} (h : n < 2 ^ 20) : 0 < Op.cmpValue (FP.fcmp (FP.i2f (nI n)) FP.fconst0) .g ↔ 0 < n := by
  by_cases h0 : n = 0
  · subst h0
    exact ⟨fun h => absurd h (by decide +kernel), fun h => absurd h (Nat.lt_irrefl 0)⟩
  · refine ⟨fun _ => by omega, fun _ => ?_⟩
    obtain ⟨c, q, hc, e⟩ := F32_int (by omega) h
    have ez : FP.Core.decode FP.Core.b32 (FP.fconst0).toNat = .fin false 0 (-149) := by decide +kernel
    have e1 : FP.fcmp (FP.i2f (nI n)) FP.fconst0 = some .gt := by
      show FP.Core.order (FP.Core.decode FP.Core.b32 (FP.i2f (nI n)).toNat) (FP.Core.decode FP.Core.b32 (FP.fconst0).toNat) = _
      rw [e, ez]
      show some (compare ((c * 2 ^ (q - min q (-149)).toNat : Nat) : Int) ((0 * 2 ^ ((-149) - min q (-149)).toNat : Nat) : Int)) = _
      have hpos : 0 < c * 2 ^ (q - min q (-149)).toNat := Nat.mul_pos hc (Nat.two_pow_pos _)
      rw [Nat.zero_mul]
      generalize c * 2 ^ (q - min q (-149)).toNat = y at hpos
      simp only [compare, compareOfLessAndEq]
      rw [if_neg (by omega), if_neg (by omega)]
    rw [e1]
    show (0 : Int32) < 1
    decide
theorem d_div {a b : Nat} (ha : a < 2 ^ 20) (hb : b < 2 ^ 20) (h0 : 0 < b) : vf_n64 (FP.ddiv (FP.i2d (nI a)) (FP.i2d (nI b))) := F64_of (F64_div (F64_intp ha) (F64_int h0 hb))
theorem d_self {a b : Nat} (ha : a < 2 ^ 20) (hb : b < 2 ^ 20) (h0 : 0 < b) : Op.cmpValue (FP.dcmp (FP.ddiv (FP.i2d (nI a)) (FP.i2d (nI b))) (FP.ddiv (FP.i2d (nI a)) (FP.i2d (nI b)))) .l = 0 := by
  have e : FP.dcmp (FP.ddiv (FP.i2d (nI a)) (FP.i2d (nI b))) (FP.ddiv (FP.i2d (nI a)) (FP.i2d (nI b))) = some .eq := F64_self (F64_ofx (F64_div (F64_intp ha) (F64_int h0 hb)))
  rw [e]
  rfl
theorem f_div {a b : Nat} (ha : a < 2 ^ 20) (hb : b < 2 ^ 20) (h0 : 0 < b) : vf_n32 (FP.fdiv (FP.i2f (nI a)) (FP.i2f (nI b))) := F32_of (F32_div (F32_intp ha) (F32_int h0 hb))
theorem f_up {a b : Nat} (ha : a < 2 ^ 20) (hb : b < 2 ^ 20) (h0 : 0 < b) : ∃ m, m % 9223372036854775808 ≤ 9218868437227405312 ∧ FP.f2d (FP.fdiv (FP.i2f (nI a)) (FP.i2f (nI b))) = UInt64.ofNat m := by
  have h := F32_ofx (F32_div (F32_intp ha) (F32_int h0 hb))
  have hn := F32_nn h
  have e1 : FP.fdiv (FP.i2f (nI a)) (FP.i2f (nI b)) = UInt32.ofNat (FP.Core.encode FP.Core.b32 (FP.Core.quotient FP.Core.b32 (FP.Core.decode FP.Core.b32 (FP.i2f (nI a)).toNat) (FP.Core.decode FP.Core.b32 (FP.i2f (nI b)).toNat))) := rfl
  rw [← e1] at hn
  generalize FP.fdiv (FP.i2f (nI a)) (FP.i2f (nI b)) = x at hn
  have e2 : FP.f2d x = (if FP.Core.fIsNaN x = true then FP.nanF2D x else FP.Core.f2d x) := rfl
  have e3 : FP.Core.fIsNaN x = false := decide_eq_false hn
  rw [e2, e3, if_neg Bool.false_ne_true]
  refine ⟨FP.Core.encode FP.Core.b64 (FP.Core.round FP.Core.b64 (FP.Core.decode FP.Core.b32 x.toNat)), ?_, rfl⟩
  generalize FP.Core.decode FP.Core.b32 x.toNat = d at hn
  cases d with
  | nan => exact absurd rfl hn
  | inf s => exact F64_inf
  | fin s c q => exact F64_round
theorem f_div2 {a b : Nat} (ha : a < 2 ^ 20) (hb : b < 2 ^ 20) (h0 : 0 < b) : vf_n64 (FP.f2d (FP.fdiv (FP.i2f (nI a)) (FP.i2f (nI b)))) := by
  obtain ⟨m, h, e⟩ := f_up ha hb h0
  rw [e]
  exact F64_of h
theorem f_self {a b : Nat} (ha : a < 2 ^ 20) (hb : b < 2 ^ 20) (h0 : 0 < b) : Op.cmpValue (FP.dcmp (FP.f2d (FP.fdiv (FP.i2f (nI a)) (FP.i2f (nI b)))) (FP.f2d (FP.fdiv (FP.i2f (nI a)) (FP.i2f (nI b))))) .l = 0 := by
  obtain ⟨m, h, e⟩ := f_up ha hb h0
  rw [e]
  have e : FP.dcmp (UInt64.ofNat m) (UInt64.ofNat m) = some .eq := F64_self (F64_ofx h)
  rw [e]
  rfl
