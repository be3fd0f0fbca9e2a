/-! ===== History: the ring's eight plants ===== -/
theorem Ctr.map {l : Launch} {D : va_G} {tys : List (ClassId × FieldType)} {sd : xSd} {y : MethodName} {ws : List Cond} {rm : Room} {av : List Value} {S S' : Type} {rv : S → Option Value} {rv' : S' → Option Value} {wi : va_W} {wo : S → va_W} {wo' : S' → va_W} {post : S → Prop} {post' : S' → Prop} (h : Ctr l D tys sd y ws rm av rv wi wo post) (f : S → S') (hrv : ∀ u, rv u = rv' (f u)) (hwo : ∀ u, wo u = wo' (f u)) (hp : ∀ u, post u → post' (f u)) : Ctr l D tys sd y ws rm av rv' wi wo' post' := fun sz =>
  MetFree.mono (h sz) (fun _ _ h => h) (fun _ _ _ _ _ h => h) (fun a st o t _ hq => by
    obtain ⟨⟨⟨u, h1, h2, h3, h4⟩, h5⟩, h6⟩ := hq
    exact ⟨⟨⟨f u, by rw [← hrv]; exact h1, hp u h2, by rw [← hwo]; exact h3, by rw [← hwo]; exact h4⟩, h5⟩, h6⟩)
def cpPD (o d : PD) : PD := (va_cpy d.1 o.1 0 0 5, va_cpy d.2.1 o.2.1 0 0 42, va_cpy d.2.2.1 o.2.2.1 0 0 50, va_cpy d.2.2.2.1 o.2.2.2.1 0 0 720, d.2.2.2.2.1, o.2.2.2.2.2.1, va_cpy d.2.2.2.2.2.2.1 o.2.2.2.2.2.2.1 0 0 40, d.2.2.2.2.2.2.2.1, o.2.2.2.2.2.2.2.2.1, d.2.2.2.2.2.2.2.2.2.1, d.2.2.2.2.2.2.2.2.2.2.1, d.2.2.2.2.2.2.2.2.2.2.2)
theorem e_copy (n : Nat) (hn : n < 2 ^ 31) {f fb : XRow} {post : XRow → Prop} (h : post (va_cpy fb f 0 0 n)) : wp_X6_copyFrom n f n fb post := by
  have e : xMin (Int32.ofNat n) (Int32.ofNat n) = nI n := by
    show (if _ then _ else _) = _
    split <;> rfl
  unfold wp_X6_copyFrom
  rw [e, nI_clamp hn]
  exact ⟨⟨nI_pos hn, Nat.le_refl _, Nat.le_refl _⟩, h⟩
theorem e_pcopy {dS dM dP dN dC dSb dMb dPb dNb dCb : XRow} {dBcb dCcb dMcb dZb dPcb : Int32} {post : (Int32 × Int32 × Int32 × XRow × XRow × XRow × Int32 × XRow × Int32 × XRow) → Prop} (h : post (dMcb, dZb, dPcb, va_cpy dSb dS 0 0 5, va_cpy dMb dM 0 0 42, va_cpy dPb dP 0 0 50, dBcb, va_cpy dNb dN 0 0 720, dCcb, va_cpy dCb dC 0 0 40)) : wp_X4_copyFrom dS dM dP dN dC dSb dMb dPb dNb dBcb dCb dCcb dMcb dZb dPcb post := by
  unfold wp_X4_copyFrom wp_X0_copyFrom wp_X1_copyFrom
  exact e_copy 5 (by decide) (e_copy 42 (by decide) (e_copy 50 (by decide) (e_copy 720 (by decide) (e_copy 40 (by decide) h))))

theorem yok_X3_newestKept : yOk yX3_newestKept 0 := by decide +kernel
theorem yok_X3_keep : yOk yX3_keep 1 := by decide +kernel
theorem yok_X3_takeBack : yOk yX3_takeBack 1 := by decide +kernel
theorem yok_X3_forget : yOk yX3_forget 0 := by decide +kernel
