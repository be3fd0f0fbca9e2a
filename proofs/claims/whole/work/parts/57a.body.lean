/-! ===== level 3: the law from its entry ===== -/
def D0 : PD := (upd (upd (upd (upd (fun _ => 0) 0 100) 1 50) 2 50) 3 10, (fun _ => 0), (fun _ => 0), (fun _ => 0), 0, (fun _ => 0), (fun _ => 0), 0, (fun _ => 0), 0, 1, 0)
def g0 : XRow := upd (upd (upd (upd (upd (fun _ => 0) ((1 : Int32).toNatClampNeg) 1) ((6 : Int32).toNatClampNeg) 100) ((7 : Int32).toNatClampNeg) 50) ((8 : Int32).toNatClampNeg) 50) ((9 : Int32).toNatClampNeg) 10
theorem g0_at (j : Nat) : g0 j = if j = 9 then 10 else if j = 8 then 50 else if j = 7 then 50 else if j = 6 then 100 else if j = 1 then 1 else 0 := rfl
theorem g0_z {j : Nat} (h : j = 0 ∨ (1 < j ∧ j < 6) ∨ 9 < j) : g0 j = 0 := by
  rw [g0_at, if_neg (by omega), if_neg (by omega), if_neg (by omega), if_neg (by omega), if_neg (by omega)]
theorem s5_z {q : Nat → Nat} (h : ∀ k, k < 5 → q k = 0) : s5 q = 0 := by
  unfold s5
  rw [h 0 (by omega), h 1 (by omega), h 2 (by omega), h 3 (by omega), h 4 (by omega)]
theorem cn_0 : cn 0 = 0 := cn_nI (n := 0) (by omega)
theorem Inv_0 : Inv 0 g0 := by
  have e0 : cn (g0 0) = 0 := by rw [g0_z (by omega)]; exact cn_0
  have e2 : cn (g0 2) = 0 := by rw [g0_z (by omega)]; exact cn_0
  have e3 : cn (g0 3) = 0 := by rw [g0_z (by omega)]; exact cn_0
  have kz : ∀ a, 9 < a → s5 (kq g0 a) = 0 := fun a ha => s5_z (fun k _ => by unfold kq; rw [g0_z (by omega)]; exact cn_0)
  refine ⟨⟨⟨100, by omega, by omega, rfl⟩, ⟨50, by omega, by omega, rfl⟩, ⟨50, by omega, by omega, rfl⟩, ⟨10, by omega, by omega, rfl⟩, ⟨0, by omega, by omega, rfl⟩⟩, ⟨⟨0, by omega, by omega, rfl⟩, fun m hm => ?_⟩, ⟨fun k hk => ⟨?_, ?_, ?_⟩, fun m hm => ?_, ?_, ?_⟩, ⟨⟨0, by omega, by omega, rfl⟩, fun c hc => ?_⟩, ⟨⟨0, by omega, by omega, rfl⟩, fun i hi => ?_⟩, ?_⟩
  · rw [e0] at hm; omega
  · rw [g0_z (by omega)]; exact kok_nI (n := 0) (by omega)
  · rw [g0_z (by omega)]; exact kok_nI (n := 0) (by omega)
  · rw [g0_z (by omega)]; exact kok_nI (n := 0) (by omega)
  · rw [e0] at hm; omega
  · unfold tot
    rw [e0, kz 11 (by omega), kz 16 (by omega)]
    exact Nat.le_refl _
  · rw [kz 21 (by omega)]
    exact Nat.le_refl _
  · rw [e3] at hc; omega
  · rw [e2] at hi; omega
  · unfold IP
    rw [e2, g0_z (by omega)]
    rfl
theorem Rel_0 : Rel 0 D0 g0 := by
  have e0 : cn (g0 0) = 0 := by rw [g0_z (by omega)]; exact cn_0
  have e2 : cn (g0 2) = 0 := by rw [g0_z (by omega)]; exact cn_0
  have e3 : cn (g0 3) = 0 := by rw [g0_z (by omega)]; exact cn_0
  refine ⟨Inv_0, fun j hj => ?_, fun m hm => ?_, ⟨fun k hk => ?_, fun m hm => ?_, fun j _ _ => rfl⟩, fun i hi => ?_, rfl, fun c hc => ?_, rfl, rfl, rfl, rfl⟩
  · rcases (show j = 0 ∨ j = 1 ∨ j = 2 ∨ j = 3 ∨ j = 4 by omega) with rfl | rfl | rfl | rfl | rfl <;> rfl
  · rw [e0] at hm; omega
  · rw [g0_z (by omega), g0_z (by omega), g0_z (by omega)]; exact ⟨rfl, rfl, rfl⟩
  · rw [e0] at hm; omega
  · rw [e2] at hi; omega
  · rw [e3] at hc; omega
def sg (a b c k : Nat) : Nat := if k < a then k else if k < a + c then k + b else k - c
theorem sg_at {α : Type} {A B C : List α} {k : Nat} (h : k < A.length + B.length + C.length) : (A ++ (C ++ B))[k]? = (A ++ (B ++ C))[sg A.length B.length C.length k]? := by
  unfold sg
  split
  · rw [List.getElem?_append_left (by assumption), List.getElem?_append_left (by assumption)]
  · split
    · rw [List.getElem?_append_right (by omega), List.getElem?_append_left (by omega), List.getElem?_append_right (by omega), List.getElem?_append_right (by omega)]
      congr 1
      omega
    · rw [List.getElem?_append_right (by omega), List.getElem?_append_right (by omega), List.getElem?_append_right (by omega), List.getElem?_append_left (by omega)]
      congr 1
      omega
theorem sg_inj {a b c i j : Nat} (hi : i < a + b + c) (hj : j < a + b + c) (h : sg a b c i = sg a b c j) : i = j := by
  unfold sg at h
  (repeat' split at h) <;> omega
theorem gx_perm {X : GXt} {cl sl : Nat} {A B C : va_W} {lv : List (Nat × Value)} {pc : Nat} {st : List Value} (k : Gx X cl sl (A ++ (C ++ B)) lv pc st) : Gx X cl sl (A ++ (B ++ C)) lv pc st := fun H locs ls hP hD hS hl => by
  have hlen : ∀ i q, (A ++ (C ++ B))[i]? = some q → i < A.length + B.length + C.length := fun i q h => by
    have := (List.getElem?_eq_some_iff.mp h).1
    rw [List.length_append, List.length_append] at this
    omega
  refine k H locs ls (fun i q h => ?_) ⟨fun i j p q hp hq e => ?_, fun i q h => ?_⟩ hS hl
  · have h1 := hlen i q h
    rw [sg_at h1] at h
    exact hP _ q h
  · have h1 := hlen i p hp
    have h2 := hlen j q hq
    rw [sg_at h1] at hp
    rw [sg_at h2] at hq
    exact sg_inj h1 h2 (hD.1 _ _ p q hp hq e)
  · have h1 := hlen i q h
    rw [sg_at h1] at h
    exact hD.2 _ q h
section NW
variable {X : GXt} {cc : ByteArray} {own : String} {Ts : List Cond} {cy : Nat → ClassId} {sd : xSd} {cl sl cl' sl' : Nat} {ws : va_W} {ws' : Nat → va_W} {lv : List (Nat × Value)} {pc : Nat} {rest : List Value} {R0 : Room}
theorem g_newlo (K : Cx X cc own Ts (xTys cy) sd) (hR : X.2.2.2.1 = R0) {n : Int32} {N' : Nat} (harr : Cond.arrayClass (newarray.typeOf .long) ∈ Ts) (hn : n = Int32.ofNat N') (hN : N' ≤ 8192) (h1 : cl + 1 ≤ R0.cells) (h2 : sl + N' ≤ R0.slots) (e1 : cl + 1 = cl') (e2 : sl + N' = sl') (hws : ∀ q, ws ++ [(q, .inl (cy 2, N', .inr (.inl (fun _ => 0))))] = ws' q) (hd : decode cc pc = .ok (.newarray .long, 2)) (kk : ∀ q, Gx X cl' sl' (ws' q) lv (pc + 2) (.ref q :: rest)) : Gx X cl sl ws lv pc (.int n :: rest) :=
  fun H locs ls hP hD hS hl => va_newa (atype := .long) (ty := .long) (N' := N') (a0 := (N', .inr (.inl (fun _ => 0)))) K.1.1 K.1.2.1 (K.1.2.2.2.2 _ harr) rfl K.2.1 hP hD hS K.2.2.1 (fun _ => rfl) (by rw [hn]; exact nI_pos (by omega)) (by rw [hn]; exact nI_clamp (by omega)) (by show N' * 8 ≤ _; omega) (by rw [hR]; exact h1) (by rw [hR]; exact h2) hd (fun q cA H1 hK1 hP1 hD1 hS1 => by
    have e := xUniq (t := 2) (ty := .long) K.2.1 rfl hK1
    subst e
    have := kk q H1 locs ls (by rw [← hws]; exact hP1) (by rw [← hws]; exact hD1) hS1 hl
    rw [← e1, ← e2] at this
    exact this)
theorem g_newdo (K : Cx X cc own Ts (xTys cy) sd) (hR : X.2.2.2.1 = R0) {n : Int32} {N' : Nat} (harr : Cond.arrayClass (newarray.typeOf .double) ∈ Ts) (hn : n = Int32.ofNat N') (hN : N' ≤ 8192) (h1 : cl + 1 ≤ R0.cells) (h2 : sl + N' ≤ R0.slots) (e1 : cl + 1 = cl') (e2 : sl + N' = sl') (hws : ∀ q, ws ++ [(q, .inl (cy 3, N', .inr (.inr (.inr (.inl (fun _ => 0))))))] = ws' q) (hd : decode cc pc = .ok (.newarray .double, 2)) (kk : ∀ q, Gx X cl' sl' (ws' q) lv (pc + 2) (.ref q :: rest)) : Gx X cl sl ws lv pc (.int n :: rest) :=
  fun H locs ls hP hD hS hl => va_newa (atype := .double) (ty := .double) (N' := N') (a0 := (N', .inr (.inr (.inr (.inl (fun _ => 0)))))) K.1.1 K.1.2.1 (K.1.2.2.2.2 _ harr) rfl K.2.1 hP hD hS K.2.2.1 (fun _ => rfl) (by rw [hn]; exact nI_pos (by omega)) (by rw [hn]; exact nI_clamp (by omega)) (by show N' * 8 ≤ _; omega) (by rw [hR]; exact h1) (by rw [hR]; exact h2) hd (fun q cA H1 hK1 hP1 hD1 hS1 => by
    have e := xUniq (t := 3) (ty := .double) K.2.1 rfl hK1
    subst e
    have := kk q H1 locs ls (by rw [← hws]; exact hP1) (by rw [← hws]; exact hD1) hS1 hl
    rw [← e1, ← e2] at this
    exact this)
end NW
theorem ring_0 (u : Nat → Nat) : (fun j => if j < 8 then some (([(u 54), (u 71), (u 88), (u 105), (u 122), (u 139), (u 156), (u 173)] : List Nat).getD j 0) else none) = xRing (fun i k => u (54 + 17 * i + k)) := by
  funext j
  unfold xRing
  by_cases h : j < 8
  · rcases (show j = 0 ∨ j = 1 ∨ j = 2 ∨ j = 3 ∨ j = 4 ∨ j = 5 ∨ j = 6 ∨ j = 7 by omega) with rfl | rfl | rfl | rfl | rfl | rfl | rfl | rfl <;> rfl
  · rw [if_neg h, if_neg h]
