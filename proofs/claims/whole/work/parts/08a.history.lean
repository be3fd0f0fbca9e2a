/-! ===== an updated world, place by place ===== -/
def lkq (k : Nat) (w : Nat × va_E) : List Nat → va_W → Nat × va_E
  | i :: is, x :: xs => bif Nat.beq i k then x else lkq k w is xs
  | _, _ => w
def upd3 (is : List Nat) (xs : va_W) : List Nat → va_W → va_W
  | k :: ks, w :: ws => lkq k w is xs :: upd3 is xs ks ws
  | _, _ => []
theorem upd3_get {is : List Nat} {xs : va_W} : ∀ {ws : va_W} {s n : Nat} (k : Nat), ws.length = n → (upd3 is xs (List.range' s n) ws)[k]? = (ws[k]?).map (fun w => lkq (s + k) w is xs)
  | [], s, n, k, h => by subst h; rfl
  | w :: ws, s, n, k, h => by
    subst h
    show (lkq s w is xs :: upd3 is xs (List.range' (s + 1) ws.length) ws)[k]? = _
    cases k with
    | zero => rfl
    | succ k =>
      have := upd3_get (is := is) (xs := xs) (ws := ws) (s := s + 1) (n := ws.length) k rfl
      rw [show s + 1 + k = s + (k + 1) by omega] at this
      exact this
theorem lkq_hit {k : Nat} {w q : Nat × va_E} : ∀ {is : List Nat} {xs : va_W} {j : Nat}, va_nd is = true → is[j]? = some k → xs[j]? = some q → lkq k w is xs = q
  | [], _, j, _, h, _ => by cases h
  | i :: is, [], j, _, _, h => by cases h
  | i :: is, x :: xs, 0, hn, h1, h2 => by
    have e1 : i = k := Option.some.inj h1
    have e2 : x = q := Option.some.inj h2
    subst e1 e2
    show (bif Nat.beq i i then x else _) = x
    rw [Nat.beq_refl]; rfl
  | i :: is, x :: xs, j + 1, hn, h1, h2 => by
    have h' : (decide (i ∉ is) && va_nd is) = true := hn
    simp only [Bool.and_eq_true, decide_eq_true_eq] at h'
    have hk : k ∈ is := List.mem_of_getElem? (i := j) h1
    have hne : Nat.beq i k = false := by
      cases hb : Nat.beq i k with
      | false => rfl
      | true => exact absurd (Nat.eq_of_beq_eq_true hb ▸ hk) h'.1
    show (bif Nat.beq i k then x else lkq k w is xs) = q
    rw [hne]
    exact lkq_hit h'.2 h1 h2
theorem lkq_miss {k : Nat} {w : Nat × va_E} : ∀ {is : List Nat} {xs : va_W}, k ∉ is → lkq k w is xs = w
  | [], _, _ => rfl
  | i :: is, [], _ => rfl
  | i :: is, x :: xs, h => by
    have hne : Nat.beq i k = false := by
      cases hb : Nat.beq i k with
      | false => rfl
      | true => exact absurd (Nat.eq_of_beq_eq_true hb ▸ List.mem_cons_self) h
    show (bif Nat.beq i k then x else lkq k w is xs) = w
    rw [hne]
    exact lkq_miss (fun hm => h (List.mem_cons_of_mem _ hm))
theorem updW_len : ∀ (is : List Nat) (ws xs : va_W), (updW ws is xs).length = ws.length
  | [], ws, [] => rfl
  | [], ws, _ :: _ => rfl
  | i :: is, ws, [] => rfl
  | i :: is, ws, x :: xs => by
    show (updW (ws.set i x) is xs).length = _
    rw [updW_len, List.length_set]
theorem u_w {is ks : List Nat} {ws xs r : va_W} {N : Nat} (hn : va_nd is = true) (hl : is.length = xs.length) (hN : ws.length = N) (hk : ks = List.range' 0 N) (h : upd3 is xs ks ws = r) : updW ws is xs = r := by
  subst hk
  rw [← h]
  refine List.ext_getElem? (fun k => ?_)
  rw [upd3_get k hN]
  cases hq : (updW ws is xs)[k]? with
  | none =>
    have := List.getElem?_eq_none_iff.mp hq
    rw [updW_len] at this
    rw [List.getElem?_eq_none this]
    rfl
  | some q =>
    have hlt : k < ws.length := by
      have := (List.getElem?_eq_some_iff.mp hq).1
      rwa [updW_len] at this
    rw [List.getElem?_eq_getElem hlt]
    show some q = some (lkq (0 + k) ws[k] is xs)
    rw [Nat.zero_add]
    rcases updW_get is xs ws k q hn hl hq with ⟨j, h1, h2⟩ | ⟨h1, h2⟩
    · rw [lkq_hit hn h1 h2]
    · rw [lkq_miss h1]
      rw [List.getElem?_eq_getElem hlt] at h2
      exact h2.symm
/-! ===== the ring's eight plants as the world's tail ===== -/
def pW (cy : Nat → ClassId) (A : Nat → Nat) (d : PD) : va_W := [((A 0), .inr (5, [.ref (A 1), .ref (A 3), .ref (A 5), .ref (A 7), .ref (A 12), .ref (A 15), .int d.2.2.2.2.2.2.2.2.2.1, .int d.2.2.2.2.2.2.2.2.2.2.1, .int d.2.2.2.2.2.2.2.2.2.2.2])), ((A 1), .inr (7, [.int 5, .ref (A 2)])), ((A 2), .inl (cy 0, 5, .inl d.1)), ((A 3), .inr (7, [.int 7, .ref (A 4)])), ((A 4), .inl (cy 0, 42, .inl d.2.1)), ((A 5), .inr (7, [.int 5, .ref (A 6)])), ((A 6), .inl (cy 0, 50, .inl d.2.2.1)), ((A 7), .inr (2, [.ref (A 8), .ref (A 10), .int d.2.2.2.2.1])), ((A 8), .inr (7, [.int 12, .ref (A 9)])), ((A 9), .inl (cy 0, 720, .inl d.2.2.2.1)), ((A 10), .inr (7, [.int 60, .ref (A 11)])), ((A 11), .inl (cy 0, 60, .inl d.2.2.2.2.2.1)), ((A 12), .inr (3, [.ref (A 13), .int d.2.2.2.2.2.2.2.1])), ((A 13), .inr (7, [.int 5, .ref (A 14)])), ((A 14), .inl (cy 0, 40, .inl d.2.2.2.2.2.2.1)), ((A 15), .inr (7, [.int 5, .ref (A 16)])), ((A 16), .inl (cy 0, 5, .inl d.2.2.2.2.2.2.2.2.1))]
def hW (cy : Nat → ClassId) (AK : Nat → Nat → Nat) (hK : Nat → PD) : va_W := pW cy (AK 0) (hK 0) ++ (pW cy (AK 1) (hK 1) ++ (pW cy (AK 2) (hK 2) ++ (pW cy (AK 3) (hK 3) ++ (pW cy (AK 4) (hK 4) ++ (pW cy (AK 5) (hK 5) ++ (pW cy (AK 6) (hK 6) ++ pW cy (AK 7) (hK 7)))))))
theorem pW_len (cy : Nat → ClassId) (A : Nat → Nat) (d : PD) : (pW cy A d).length = 17 := rfl
theorem pW_fst (cy : Nat → ClassId) (A : Nat → Nat) (d : PD) : (pW cy A d).map Prod.fst = [A 0, A 1, A 2, A 3, A 4, A 5, A 6, A 7, A 8, A 9, A 10, A 11, A 12, A 13, A 14, A 15, A 16] := rfl
theorem hW_len (cy : Nat → ClassId) (AK : Nat → Nat → Nat) (hK : Nat → PD) : (hW cy AK hK).length = 136 := by
  unfold hW
  simp only [List.length_append, pW_len]
theorem hW_fst (cy : Nat → ClassId) (AK : Nat → Nat → Nat) (hK hK' : Nat → PD) : (hW cy AK hK).map Prod.fst = (hW cy AK hK').map Prod.fst := by
  unfold hW
  simp only [List.map_append, pW_fst]
theorem t_C0 {T : va_W} : ∀ {isB : List Nat} {wsB wb : va_W}, isB.map (fun i => wsB[i]?) = wb.map some → isB.map (fun i => (wsB ++ T)[i]?) = wb.map some
  | [], _, _, h => h
  | i :: is, wsB, [], h => by cases h
  | i :: is, wsB, x :: xs, h => by
    have h1 : wsB[i]? = some x := (List.cons.inj h).1
    have h2 := (List.cons.inj h).2
    have hi : i < wsB.length := (List.getElem?_eq_some_iff.mp h1).1
    show (wsB ++ T)[i]? :: _ = some x :: _
    rw [List.getElem?_append_left hi, h1, t_C0 h2]
theorem t_C1 : ∀ {T wsB : va_W} {N n : Nat}, wsB.length = N → T.length = n → (List.range' N n).map (fun i => (wsB ++ T)[i]?) = T.map some
  | [], wsB, N, n, hN, hT => by
    subst hT; rfl
  | x :: xs, wsB, N, n, hN, hT => by
    subst hT
    have ih := t_C1 (T := xs) (wsB := wsB ++ [x]) (N := N + 1) (n := xs.length) (by rw [List.length_append, hN]; rfl) rfl
    rw [List.append_assoc] at ih
    show (wsB ++ x :: xs)[N]? :: (List.range' (N + 1) xs.length).map (fun i => (wsB ++ x :: xs)[i]?) = some x :: xs.map some
    have e : (wsB ++ x :: xs)[N]? = some x := by
      rw [List.getElem?_append_right (by omega), hN, Nat.sub_self]
      rfl
    rw [e]
    exact congrArg (some x :: ·) ih
theorem t_C {isB : List Nat} {wsB wb T : va_W} {N n : Nat} (hB : isB.map (fun i => wsB[i]?) = wb.map some) (hN : wsB.length = N) (hT : T.length = n) : (isB ++ List.range' N n).map (fun i => (wsB ++ T)[i]?) = (wb ++ T).map some := by
  rw [List.map_append, List.map_append, t_C0 hB, t_C1 hN hT]
theorem t_nd0 : ∀ (n N : Nat), va_nd (List.range' N n) = true
  | 0, _ => rfl
  | n + 1, N => by
    show (decide (N ∉ List.range' (N + 1) n) && va_nd (List.range' (N + 1) n)) = true
    rw [t_nd0 n (N + 1), Bool.and_true, decide_eq_true_eq]
    intro h
    have := (List.mem_range'_1.mp h).1
    omega
theorem t_nd {N n : Nat} : ∀ {isB : List Nat}, isB.all (fun i => decide (i < N)) = true → va_nd isB = true → va_nd (isB ++ List.range' N n) = true
  | [], _, _ => t_nd0 n N
  | i :: is, hb, h => by
    simp only [List.all_cons, Bool.and_eq_true, decide_eq_true_eq] at hb
    have h' : (decide (i ∉ is) && va_nd is) = true := h
    simp only [Bool.and_eq_true, decide_eq_true_eq] at h'
    show (decide (i ∉ is ++ List.range' N n) && va_nd (is ++ List.range' N n)) = true
    rw [t_nd hb.2 h'.2, Bool.and_true, decide_eq_true_eq]
    intro hm
    rcases List.mem_append.mp hm with hm | hm
    · exact h'.1 hm
    · have := (List.mem_range'_1.mp hm).1
      omega
theorem t_f {wb wb' T T' : va_W} (h1 : wb'.map Prod.fst = wb.map Prod.fst) (h2 : T'.map Prod.fst = T.map Prod.fst) : (wb' ++ T').map Prod.fst = (wb ++ T).map Prod.fst := by rw [List.map_append, List.map_append, h1, h2]
theorem t_w0 : ∀ {T T' wsB : va_W} {N n : Nat}, wsB.length = N → T.length = n → T'.length = n → updW (wsB ++ T) (List.range' N n) T' = wsB ++ T'
  | [], T', wsB, N, n, hN, hT, hT' => by
    subst hT
    have : T' = [] := List.length_eq_zero_iff.mp hT'
    subst this
    rfl
  | x :: xs, [], wsB, N, n, hN, hT, hT' => by subst hT; cases hT'
  | x :: xs, y :: ys, wsB, N, n, hN, hT, hT' => by
    subst hT
    have ih := t_w0 (T := xs) (T' := ys) (wsB := wsB ++ [y]) (N := N + 1) (n := xs.length) (by rw [List.length_append, hN]; rfl) rfl (Nat.succ.inj hT')
    rw [List.append_assoc, List.append_assoc] at ih
    show updW ((wsB ++ x :: xs).set N y) (List.range' (N + 1) xs.length) ys = _
    have e : (wsB ++ x :: xs).set N y = wsB ++ ([y] ++ xs) := by
      rw [List.set_append_right _ _ (by omega), hN, Nat.sub_self]
      rfl
    rw [e, ih]
    rfl
theorem t_w {T T' : va_W} {N n : Nat} : ∀ {isB : List Nat} {wsB wb' wsB' : va_W}, isB.all (fun i => decide (i < N)) = true → wb'.length = isB.length → wsB.length = N → T.length = n → T'.length = n → updW wsB isB wb' = wsB' → updW (wsB ++ T) (isB ++ List.range' N n) (wb' ++ T') = wsB' ++ T'
  | [], wsB, wb', wsB', hb, hl, hN, hT, hT', h => by
    have : wb' = [] := List.length_eq_zero_iff.mp hl
    subst this
    have h' : wsB = wsB' := h
    subst h'
    exact t_w0 hN hT hT'
  | i :: is, wsB, [], wsB', hb, hl, hN, hT, hT', h => by cases hl
  | i :: is, wsB, x :: xs, wsB', hb, hl, hN, hT, hT', h => by
    simp only [List.all_cons, Bool.and_eq_true, decide_eq_true_eq] at hb
    have h' : updW (wsB.set i x) is xs = wsB' := h
    show updW ((wsB ++ T).set i x) (is ++ List.range' N n) (xs ++ T') = _
    rw [List.set_append_left _ _ (by omega)]
    exact t_w hb.2 (Nat.succ.inj hl) (by rw [List.length_set]; exact hN) hT hT' h'
theorem t_w2 {T : va_W} {N : Nat} : ∀ {isB : List Nat} {wsB wb' wsB' : va_W}, isB.all (fun i => decide (i < N)) = true → wsB.length = N → updW wsB isB wb' = wsB' → updW (wsB ++ T) isB wb' = wsB' ++ T
  | [], wsB, wb', wsB', hb, hN, h => by
    have h' : wsB = wsB' := by cases wb' <;> exact h
    subst h'
    cases wb' <;> rfl
  | i :: is, wsB, [], wsB', hb, hN, h => by
    have h' : wsB = wsB' := h
    subst h'
    rfl
  | i :: is, wsB, x :: xs, wsB', hb, hN, h => by
    simp only [List.all_cons, Bool.and_eq_true, decide_eq_true_eq] at hb
    have h' : updW (wsB.set i x) is xs = wsB' := h
    show updW ((wsB ++ T).set i x) is xs = _
    rw [List.set_append_left _ _ (by omega)]
    exact t_w2 hb.2 (by rw [List.length_set]; exact hN) h'
/-- a contract over a larger world -/
theorem Ctr.frame {l : Launch} {D : va_G} {tys : List (ClassId × FieldType)} {sd : xSd} {y : MethodName} {ws : List Cond} {rm : Room} {av : List Value} {S : Type} {rv : S → Option Value} {wi W : va_W} {wo ws' : S → va_W} {post : S → Prop} (h : Ctr l D tys sd y ws rm av rv wi wo post) (is : List Nat) (hC : is.map (fun i => W[i]?) = wi.map some) (hnd : va_nd is = true) (hf : ∀ u, (wo u).map Prod.fst = wi.map Prod.fst) (hws : ∀ u, updW W is (wo u) = ws' u) : Ctr l D tys sd y ws rm av rv W ws' post := fun sz =>
  have hsub : ∀ q, va_A wi sz q → va_A W sz q := fun q hq => by
    rcases hq with ⟨k, e, hk⟩ | hq
    · obtain ⟨i, _, hi⟩ := map_at hC k _ hk
      exact Or.inl ⟨i, e, hi⟩
    · exact Or.inr hq
  MetFree.mono (h sz) (fun a U q => ⟨q.1, q.2.1, fun k x hx => (let ⟨i, _, hi⟩ := map_at hC k x hx; q.2.2.1 i x hi), q.2.2.2.1, q.2.2.2.2.1.sub is hnd hC, q.2.2.2.2.2.narrow hsub⟩) (fun _ _ _ _ _ h => h) (fun a st o t hp hq => by
    obtain ⟨⟨⟨u, h1, h2, h3, h4⟩, h5⟩, L, h6, h7⟩ := hq
    have hsz : st.heap.size = sz := hp.2.1
    obtain ⟨hP2, hD2⟩ := upd_join (wn := []) hp.2.2.1 (hp.2.2.2.2.1.self (sz := sz)) is hC hnd (hf u) (fun q h8 h9 => h5.2 q h8 (by rw [← hsz]; exact h9)) (by rw [hsz]; exact hsub) (by rw [List.append_nil]; exact h3) (by rw [List.append_nil, hsz]; exact h4)
    rw [List.append_nil, hws] at hP2 hD2
    exact ⟨⟨⟨u, h1, h2, hP2, hD2⟩, h5.1, fun q h8 h9 => h5.2 q h8 (fun z => h9 (hsub q z))⟩, L, h6, fun q hq => hsub _ (h7 q hq)⟩)

/-! ===== History: the ring's eight plants ===== -/
theorem Ctr.map {l : Launch} {D : va_G} {tys : List (ClassId × FieldType)} {sd : xSd} {y : MethodName} {ws : List Cond} {rm : Room} {av : List Value} {S S' : Type} {rv : S → Option Value} {rv' : S' → Option Value} {wi : va_W} {wo : S → va_W} {wo' : S' → va_W} {post : S → Prop} {post' : S' → Prop} (h : Ctr l D tys sd y ws rm av rv wi wo post) (f : S → S') (hrv : ∀ u, rv u = rv' (f u)) (hwo : ∀ u, wo u = wo' (f u)) (hp : ∀ u, post u → post' (f u)) : Ctr l D tys sd y ws rm av rv' wi wo' post' := fun sz =>
  MetFree.mono (h sz) (fun _ _ h => h) (fun _ _ _ _ _ h => h) (fun a st o t _ hq => by
    obtain ⟨⟨⟨u, h1, h2, h3, h4⟩, h5⟩, h6⟩ := hq
    exact ⟨⟨⟨f u, by rw [← hrv]; exact h1, hp u h2, by rw [← hwo]; exact h3, by rw [← hwo]; exact h4⟩, h5⟩, h6⟩)
def cpPD (o d : PD) : PD := (va_cpy d.1 o.1 0 0 5, va_cpy d.2.1 o.2.1 0 0 42, va_cpy d.2.2.1 o.2.2.1 0 0 50, va_cpy d.2.2.2.1 o.2.2.2.1 0 0 720, d.2.2.2.2.1, o.2.2.2.2.2.1, va_cpy d.2.2.2.2.2.2.1 o.2.2.2.2.2.2.1 0 0 40, d.2.2.2.2.2.2.2.1, o.2.2.2.2.2.2.2.2.1, d.2.2.2.2.2.2.2.2.2.1, d.2.2.2.2.2.2.2.2.2.2.1, d.2.2.2.2.2.2.2.2.2.2.2)
theorem e_copy (n : Nat) (hn : n < 2 ^ 31) {f fb : XRow} {post : XRow → Prop} (h : post (va_cpy fb f 0 0 n)) : wp_X6_copyFrom n f n fb post := by
  have e : xMin (Int32.ofNat n) (Int32.ofNat n) = nI n := by
    show (if _ then _ else _) = _
    split <;> rfl
  unfold wp_X6_copyFrom
  rw [e, nI_clamp hn]
  exact ⟨⟨nI_pos hn, Nat.le_refl _, Nat.le_refl _⟩, h⟩
theorem e_pcopy {dS dM dP dN dC dSb dMb dPb dNb dCb : XRow} {dBcb dCcb dMcb dZb dPcb : Int32} {post : (Int32 × Int32 × Int32 × XRow × XRow × XRow × Int32 × XRow × Int32 × XRow) → Prop} (h : post (dMcb, dZb, dPcb, va_cpy dSb dS 0 0 5, va_cpy dMb dM 0 0 42, va_cpy dPb dP 0 0 50, dBcb, va_cpy dNb dN 0 0 720, dCcb, va_cpy dCb dC 0 0 40)) : wp_X4_copyFrom dS dM dP dN dC dSb dMb dPb dNb dBcb dCb dCcb dMcb dZb dPcb post := by
  unfold wp_X4_copyFrom wp_X0_copyFrom wp_X1_copyFrom
  exact e_copy 5 (by decide) (e_copy 42 (by decide) (e_copy 50 (by decide) (e_copy 720 (by decide) (e_copy 40 (by decide) h))))

theorem yok_X3_newestKept : yOk yX3_newestKept 0 := by decide +kernel
theorem yok_X3_keep : yOk yX3_keep 1 := by decide +kernel
theorem yok_X3_takeBack : yOk yX3_takeBack 1 := by decide +kernel
theorem yok_X3_forget : yOk yX3_forget 0 := by decide +kernel
