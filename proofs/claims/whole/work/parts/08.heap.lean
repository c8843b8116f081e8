/-! ===== rows that read and write the world ===== -/
section ZH
variable {Ω : zO} {Γ : zM} {R : Room} {nL k n : Nat} {Q : State → Prop} {Ls : List zL} {ad : Nat → Nat} {σ : zS} {pc : Nat} {lv lv' : List (Nat × Value)} {st : List Value} {cc : ByteArray} {own : String} {a b i : Int} {o : Nat}
theorem zi_cast {x : Int} (h : 0 ≤ x) : ((x.toNat : Nat) : Int) = x := Int.toNat_of_nonneg h
theorem zrow_upd {f : Int → Int} {i x : Int} (h : 0 ≤ i) : upd (fun j => zI (f (j : Nat))) i.toNat (zI x) = fun j : Nat => zI ((fun c : Int => if c = i then x else f c) (j : Nat)) := by
  funext j
  unfold upd
  by_cases e : j = i.toNat
  · have e2 : ((j : Nat) : Int) = i := by rw [e]; exact zi_cast h
    simp [e, zi_cast h]
  · have e2 : ((j : Nat) : Int) ≠ i := by omega
    simp [e, e2]
theorem zU_at (σ : zS) (o : Nat) (i x : Int) : zU σ o i x o = fun c : Int => if c = i then x else σ o c := by funext c; simp [zU]
theorem v_iald (cx : zC Ω Γ cc nL own) {N : Nat} (hy : Ls[o]? = some (zAr 1 N)) (hN : N ≤ 2147483648) (h0 : 0 ≤ i) (h1 : i < N) (hd : decode cc pc = .ok (.iaload, 1)) (h : zR (σ o i) → zV Ω Γ R nL Q k n Ls ad σ (pc + 1) lv (.int (zI (σ o i)) :: st)) : zV Ω Γ R nL Q k n Ls ad σ pc lv (.int (zI i) :: .ref (ad o) :: st) := by
  obtain ⟨l, D, dA, A, sx⟩ := Ω
  obtain ⟨p, e, s, m, args, below, meth, c⟩ := Γ
  obtain ⟨hx', hb, hml, hown, hts, hK, hA, hlk, hst⟩ := cx
  intro H locs ls hl hP hD hS hr
  have hz : zR i := ⟨by omega, by omega⟩
  refine va_iald hx' hb hK hP o 0 (zw_get hy) rfl (zI_in h0 h1 hN) hd ?_
  rw [zI_clamp hz, zi_cast h0]
  exact h (hr o i) H locs ls hl hP hD hS hr
theorem v_zald (cx : zC Ω Γ cc nL own) {N : Nat} (hy : Ls[o]? = some (zAr 2 N)) (hN : N ≤ 2147483648) (h0 : 0 ≤ i) (h1 : i < N) (hd : decode cc pc = .ok (.baload, 1)) (h : zR (σ o i) → zV Ω Γ R nL Q k n Ls ad σ (pc + 1) lv (.int (zI (σ o i)) :: st)) : zV Ω Γ R nL Q k n Ls ad σ pc lv (.int (zI i) :: .ref (ad o) :: st) := by
  obtain ⟨l, D, dA, A, sx⟩ := Ω
  obtain ⟨p, e, s, m, args, below, meth, c⟩ := Γ
  obtain ⟨hx', hb, hml, hown, hts, hK, hA, hlk, hst⟩ := cx
  intro H locs ls hl hP hD hS hr
  have hz : zR i := ⟨by omega, by omega⟩
  refine va_zald hx' hb hK hP o 1 (zw_get hy) rfl (zI_in h0 h1 hN) hd ?_
  rw [zI_clamp hz, zi_cast h0]
  exact h (hr o i) H locs ls hl hP hD hS hr
theorem v_lald (cx : zC Ω Γ cc nL own) {N : Nat} (hy : Ls[o]? = some (zLo N)) (hN : N ≤ 2147483648) (h0 : 0 ≤ i) (h1 : i < N) (hd : decode cc pc = .ok (.laload, 1)) (h : zR (σ o i) → zV Ω Γ R nL Q k n Ls ad σ (pc + 1) lv (.long (zJ (σ o i)) :: st)) : zV Ω Γ R nL Q k n Ls ad σ pc lv (.int (zI i) :: .ref (ad o) :: st) := by
  obtain ⟨l, D, dA, A, sx⟩ := Ω
  obtain ⟨p, e, s, m, args, below, meth, c⟩ := Γ
  obtain ⟨hx', hb, hml, hown, hts, hK, hA, hlk, hst⟩ := cx
  intro H locs ls hl hP hD hS hr
  have hz : zR i := ⟨by omega, by omega⟩
  refine va_lald hx' hb hK hP o 2 (zw_get hy) rfl (zI_in h0 h1 hN) hd ?_
  rw [zI_clamp hz, zi_cast h0]
  exact h (hr o i) H locs ls hl hP hD hS hr
theorem v_alen (cx : zC Ω Γ cc nL own) {N : Nat} (hy : Ls[o]? = some (zAr 1 N)) (hd : decode cc pc = .ok (.arraylength, 1)) (h : zV Ω Γ R nL Q k n Ls ad σ (pc + 1) lv (.int (zI (N : Int)) :: st)) : zV Ω Γ R nL Q k n Ls ad σ pc lv (.ref (ad o) :: st) := by
  obtain ⟨l, D, dA, A, sx⟩ := Ω
  obtain ⟨p, e, s, m, args, below, meth, c⟩ := Γ
  obtain ⟨hx', hb, hml, hown, hts, hK, hA, hlk, hst⟩ := cx
  intro H locs ls hl hP hD hS hr
  exact va_alen hx' hb hK hP o 0 (zw_get hy) rfl (zI_nat N).symm hd (h H locs ls hl hP hD hS hr)
theorem v_iast (cx : zC Ω Γ cc nL own) {N : Nat} (hy : Ls[o]? = some (zAr 1 N)) (hN : N ≤ 2147483648) (h0 : 0 ≤ i) (h1 : i < N) (ha : zR a) (hd : decode cc pc = .ok (.iastore, 1)) (h : zV Ω Γ R nL Q k n Ls ad (zU σ o i a) (pc + 1) lv st) : zV Ω Γ R nL Q k n Ls ad σ pc lv (.int (zI a) :: .int (zI i) :: .ref (ad o) :: st) := by
  obtain ⟨l, D, dA, A, sx⟩ := Ω
  obtain ⟨p, e, s, m, args, below, meth, c⟩ := Γ
  obtain ⟨hx', hb, hml, hown, hts, hK, hA, hlk, hst⟩ := cx
  intro H locs ls hl hP hD hS hr
  have hz : zR i := ⟨by omega, by omega⟩
  refine va_iast hx' hb hK hP hD hS o 0 (zw_get hy) rfl (zI_in h0 h1 hN) hd ?_
  rw [zI_clamp hz, zrow_upd h0]
  intro H1 locs1 hP1 hD1 hS1
  have e : (zw dA ad Ls σ).set o (ad o, .inl (dA 1, N, .inl (fun j : Nat => zI ((fun c : Int => if c = i then a else σ o c) (j : Nat))))) = zw dA ad Ls (zU σ o i a) := zw_put hy (by rw [zU_at]; rfl) (fun q hq => zU_row hq)
  rw [e] at hP1 hD1
  exact h H1 locs1 ls hl hP1 hD1 hS1 (zRG_U hr ha)
theorem z_nar01 {x : Int} (h : x = 0 ∨ x = 1) : vp_nar .boolean (zI x) = zI x := by
  rcases h with rfl | rfl <;> rfl
theorem v_zast (cx : zC Ω Γ cc nL own) {N : Nat} (hy : Ls[o]? = some (zAr 2 N)) (hN : N ≤ 2147483648) (h0 : 0 ≤ i) (h1 : i < N) (ha : a = 0 ∨ a = 1) (hd : decode cc pc = .ok (.bastore, 1)) (h : zV Ω Γ R nL Q k n Ls ad (zU σ o i a) (pc + 1) lv st) : zV Ω Γ R nL Q k n Ls ad σ pc lv (.int (zI a) :: .int (zI i) :: .ref (ad o) :: st) := by
  obtain ⟨l, D, dA, A, sx⟩ := Ω
  obtain ⟨p, e, s, m, args, below, meth, c⟩ := Γ
  obtain ⟨hx', hb, hml, hown, hts, hK, hA, hlk, hst⟩ := cx
  intro H locs ls hl hP hD hS hr
  have hz : zR i := ⟨by omega, by omega⟩
  refine va_zast hx' hb hK hP hD hS o 1 (zw_get hy) rfl (zI_in h0 h1 hN) hd ?_
  rw [zI_clamp hz, z_nar01 ha, zrow_upd h0]
  intro H1 locs1 hP1 hD1 hS1
  have e : (zw dA ad Ls σ).set o (ad o, .inl (dA 2, N, .inl (fun j : Nat => zI ((fun c : Int => if c = i then a else σ o c) (j : Nat))))) = zw dA ad Ls (zU σ o i a) := zw_put hy (by rw [zU_at]; rfl) (fun q hq => zU_row hq)
  rw [e] at hP1 hD1
  exact h H1 locs1 ls hl hP1 hD1 hS1 (zRG_U hr (by rcases ha with rfl | rfl <;> exact ⟨by decide, by decide⟩))
theorem v_last (cx : zC Ω Γ cc nL own) {N : Nat} (hy : Ls[o]? = some (zLo N)) (hN : N ≤ 2147483648) (h0 : 0 ≤ i) (h1 : i < N) (ha : zR a) (hd : decode cc pc = .ok (.lastore, 1)) (h : zV Ω Γ R nL Q k n Ls ad (zU σ o i a) (pc + 1) lv st) : zV Ω Γ R nL Q k n Ls ad σ pc lv (.long (zJ a) :: .int (zI i) :: .ref (ad o) :: st) := by
  obtain ⟨l, D, dA, A, sx⟩ := Ω
  obtain ⟨p, e, s, m, args, below, meth, c⟩ := Γ
  obtain ⟨hx', hb, hml, hown, hts, hK, hA, hlk, hst⟩ := cx
  intro H locs ls hl hP hD hS hr
  have hz : zR i := ⟨by omega, by omega⟩
  refine va_last hx' hb hK hP hD hS o 2 (zw_get hy) rfl (zI_in h0 h1 hN) hd ?_
  have e0 : vp_updL (fun j : Nat => zJ (σ o (j : Nat))) i.toNat (zJ a) = fun j : Nat => zJ ((fun c : Int => if c = i then a else σ o c) (j : Nat)) := by
    funext j
    unfold vp_updL
    by_cases e : j = i.toNat
    · simp [e, zi_cast h0]
    · have e2 : ((j : Nat) : Int) ≠ i := by omega
      simp [e, e2]
  rw [zI_clamp hz, e0]
  intro H1 locs1 hP1 hD1 hS1
  have e : (zw dA ad Ls σ).set o (ad o, .inl (dA 3, N, .inr (.inl (fun j : Nat => zJ ((fun c : Int => if c = i then a else σ o c) (j : Nat)))))) = zw dA ad Ls (zU σ o i a) := zw_put hy (by rw [zU_at]; rfl) (fun q hq => zU_row hq)
  rw [e] at hP1 hD1
  exact h H1 locs1 ls hl hP1 hD1 hS1 (zRG_U hr ha)
/-- a field: the class by its number, its place j -/
theorem v_geti (cx : zC Ω Γ cc nL own) {ci idx : Nat} {fs : List (Option (Option Nat))} {C : String} {T : u_T} {N : Nat} (j : Nat) (hy : Ls[o]? = some (zOb ci fs)) (hj : fs[j]? = some none) (hc : zCl[ci]? = some (C, T, N)) (hk : j < N) (hin : ∀ w ∈ u_ws C T N, w ∈ zT) (hw : Cond.fieldLink own idx (T j).1 (T j).2.1 (T j).2.2.1 ∈ zT) (hd : decode cc pc = .ok (.getfield idx, 3)) (h : zR (σ o (j : Int)) → zV Ω Γ R nL Q k n Ls ad σ (pc + 3) lv (.int (zI (σ o (j : Int))) :: st)) : zV Ω Γ R nL Q k n Ls ad σ pc lv (.ref (ad o) :: st) := by
  obtain ⟨l, D, dA, A, sx⟩ := Ω
  obtain ⟨p, e, s, m, args, below, meth, c⟩ := Γ
  obtain ⟨hx', hb, hml, hown, hts, hK, hA, hlk, hst⟩ := cx
  intro H locs ls hl hP hD hS hr
  exact va_get hx' hb hts hin hown hK hP o (zw_get hy) hc j hk (hts _ hw) (fun _ q => q) (by rw [zF_get, hj]; simp) hd (h (hr o (j : Int)) H locs ls hl hP hD hS hr)
theorem v_getr (cx : zC Ω Γ cc nL own) {ci idx r : Nat} {fs : List (Option (Option Nat))} {C : String} {T : u_T} {N : Nat} (j : Nat) (hy : Ls[o]? = some (zOb ci fs)) (hj : fs[j]? = some (some (some r))) (hc : zCl[ci]? = some (C, T, N)) (hk : j < N) (hin : ∀ w ∈ u_ws C T N, w ∈ zT) (hw : Cond.fieldLink own idx (T j).1 (T j).2.1 (T j).2.2.1 ∈ zT) (hd : decode cc pc = .ok (.getfield idx, 3)) (h : zV Ω Γ R nL Q k n Ls ad σ (pc + 3) lv (.ref (ad r) :: st)) : zV Ω Γ R nL Q k n Ls ad σ pc lv (.ref (ad o) :: st) := by
  obtain ⟨l, D, dA, A, sx⟩ := Ω
  obtain ⟨p, e, s, m, args, below, meth, c⟩ := Γ
  obtain ⟨hx', hb, hml, hown, hts, hK, hA, hlk, hst⟩ := cx
  intro H locs ls hl hP hD hS hr
  exact va_get hx' hb hts hin hown hK hP o (zw_get hy) hc j hk (hts _ hw) (fun _ q => q) (by rw [zF_get, hj]; simp) hd (h H locs ls hl hP hD hS hr)
theorem v_puti (cx : zC Ω Γ cc nL own) {ci idx : Nat} {fs : List (Option (Option Nat))} {C : String} {T : u_T} {N : Nat} (j : Nat) (ty0 : Nat → FieldType) (hty : ∀ x, x < N → parseFieldDescriptor (T x).2.2.1 = some (ty0 x)) (hnm : ∀ x, x < N → ∀ y, y < N → x ≠ y → (T x).2.1 ≠ (T y).2.1) (hy : Ls[o]? = some (zOb ci fs)) (hj : fs[j]? = some none) (hc : zCl[ci]? = some (C, T, N)) (hk : j < N) (hin : ∀ w ∈ u_ws C T N, w ∈ zT) (hw : Cond.fieldLink own idx (T j).1 (T j).2.1 (T j).2.2.1 ∈ zT) (hf : (T j).2.2.2 = false) {ty : FieldType} (ht : parseFieldDescriptor (T j).2.2.1 = some ty) (hn : narrow ty (.int (zI a)) = .int (zI a)) (hfit : fits ty (.int (zI a)) = true) (ha : zR a) (hd : decode cc pc = .ok (.putfield idx, 3)) (h : zV Ω Γ R nL Q k n Ls ad (zU σ o (j : Int) a) (pc + 3) lv st) : zV Ω Γ R nL Q k n Ls ad σ pc lv (.int (zI a) :: .ref (ad o) :: st) := by
  obtain ⟨l, D, dA, A, sx⟩ := Ω
  obtain ⟨p, e, s, m, args, below, meth, c⟩ := Γ
  obtain ⟨hx', hb, hml, hown, hts, hK, hA, hlk, hst⟩ := cx
  intro H locs ls hl hP hD hS hr
  have hlen : j < (zF ad (σ o) 0 fs).length := by
    have q := zF_get ad (σ o) fs 0 j
    rw [hj] at q
    exact (List.getElem?_eq_some_iff.mp q).1
  refine va_put hx' hb hts hin ty0 hty hnm hown hK hP hD hS o (zw_get hy) hc j hk (hts _ hw) (fun _ q => q) hf ht hn hfit hlen hd ?_
  intro H1 locs1 hP1 hD1 hS1
  have e2 : (zF ad (σ o) 0 fs).set j (.int (zI a)) = zF ad (zU σ o (j : Int) a o) 0 fs := zF_put hj (by rw [zU_s]) (fun x hx => zU_k (by omega))
  have e : (zw dA ad Ls σ).set o (ad o, .inr (ci, (zF ad (σ o) 0 fs).set j (.int (zI a)))) = zw dA ad Ls (zU σ o (j : Int) a) := zw_put hy (by rw [e2]; rfl) (fun q hq => zU_row hq)
  rw [e] at hP1 hD1
  exact h H1 locs1 ls hl hP1 hD1 hS1 (zRG_U hr ha)
/-- a static row of the class -/
theorem v_gets (cx : zC Ω Γ cc nL own) {idx : Nat} {q : String × Nat × List Int} (hq : q ∈ zSA) (hw : Cond.fieldLink own idx "GentleRoad" q.1 "[I" ∈ zT) (hd : decode cc pc = .ok (.getstatic idx, 3)) (h : zV Ω Γ R nL Q k n Ls ad σ (pc + 3) lv (.ref (Ω.2.2.2.2 q.2.1) :: st)) : zV Ω Γ R nL Q k n Ls ad σ pc lv st := by
  obtain ⟨l, D, dA, A, sx⟩ := Ω
  obtain ⟨p, e, s, m, args, below, meth, c⟩ := Γ
  obtain ⟨hx', hb, hml, hown, hts, hK, hA, hlk, hst⟩ := cx
  intro H locs ls hl hP hD hS hr
  exact va_gets hx' hb (hst.2.2.1 q hq).1 hS hown (hts _ hw) (fun _ q => q) hd (h H locs ls hl hP hD hS hr)
theorem v_getsN (cx : zC Ω Γ cc nL own) {idx : Nat} {q : String × Nat × List Int} (hq : q ∈ zSA) (hw : Cond.fieldLinkNest own idx "GentleRoad" q.1 "[I" "GentleRoad" ∈ zNw) (hd : decode cc pc = .ok (.getstatic idx, 3)) (h : zV Ω Γ R nL Q k n Ls ad σ (pc + 3) lv (.ref (Ω.2.2.2.2 q.2.1) :: st)) : zV Ω Γ R nL Q k n Ls ad σ pc lv st := by
  obtain ⟨l, D, dA, A, sx⟩ := Ω
  obtain ⟨p, e, s, m, args, below, meth, c⟩ := Γ
  obtain ⟨hx', hb, hml, hown, hts, hK, hA, hlk, hst⟩ := cx
  intro H locs ls hl hP hD hS hr
  exact va_getsN hx' hb (hst.2.2.1 q hq).1 hS hown ((hst.2.1 _ hw).use (zNw_k _ hw).2) (fun _ q => q) hd (h H locs ls hl hP hD hS hr)
def zSV (j : Nat) (i : Int) : Int := ((zSA.getD j ("", 0, [])).2.2).getD i.toNat 0
theorem zSA_R : ∀ q ∈ zSA, ∀ x ∈ q.2.2, -1 ≤ x ∧ x ≤ 99 := by decide +kernel
theorem zSV_R (j : Nat) (i : Int) : -1 ≤ zSV j i ∧ zSV j i ≤ 99 := by
  unfold zSV
  rw [List.getD_eq_getElem?_getD, List.getD_eq_getElem?_getD]
  cases h : zSA[j]? with
  | none => simp
  | some q =>
    simp only [Option.getD_some]
    cases h2 : q.2.2[i.toNat]? with
    | none => simp
    | some x =>
      simp only [Option.getD_some]
      exact zSA_R q (List.mem_of_getElem? h) x (List.mem_of_getElem? h2)
theorem v_sald (cx : zC Ω Γ cc nL own) (j : Nat) {N : Nat} {q : String × Nat × List Int} (hq : zSA[j]? = some q) (hj : q.2.1 = j) (hN0 : q.2.2.length = N) (hN : N ≤ 2147483648) (h0 : 0 ≤ i) (h1 : i < N) (hd : decode cc pc = .ok (.iaload, 1)) (h : zR (zSV j i) → zV Ω Γ R nL Q k n Ls ad σ (pc + 1) lv (.int (zI (zSV j i)) :: st)) : zV Ω Γ R nL Q k n Ls ad σ pc lv (.int (zI i) :: .ref (Ω.2.2.2.2 j) :: st) := by
  obtain ⟨l, D, dA, A, sx⟩ := Ω
  obtain ⟨p, e, s, m, args, below, meth, c⟩ := Γ
  obtain ⟨hx', hb, hml, hown, hts, hK, hA, hlk, hst⟩ := cx
  intro H locs ls hl hP hD hS hr
  have hz : zR i := ⟨by omega, by omega⟩
  subst hN0
  obtain ⟨-, a2, a3, a4⟩ := hst.2.2.1 q (List.mem_of_getElem? hq)
  rw [hj] at a2 a3 a4
  refine va_sld hx' hb a2 a3 a4 hS (zI_in h0 h1 hN) hd ?_
  have e : zSV j i = q.2.2.getD i.toNat 0 := by
    unfold zSV
    rw [List.getD_eq_getElem?_getD (l := zSA), hq]
    rfl
  have h' := h ⟨by have := (zSV_R j i).1; omega, by have := (zSV_R j i).2; omega⟩
  rw [e] at h'
  rw [zI_clamp hz]
  exact h' H locs ls hl hP hD hS hr
/-- System.arraycopy between two rows of the world -/
def zCpy (f g : Int → Int) (sp dp m : Int) : Int → Int := fun c => if dp ≤ c ∧ c < dp + m then f (sp + (c - dp)) else g c
theorem zcpy_eq {f g : Int → Int} {sp dp m : Int} (h1 : 0 ≤ sp) (h2 : 0 ≤ dp) (h3 : 0 ≤ m) : va_cpy (fun j : Nat => zI (f (j : Nat))) (fun j : Nat => zI (g (j : Nat))) sp.toNat dp.toNat m.toNat = fun j : Nat => zI (zCpy f g sp dp m (j : Nat)) := by
  funext j
  unfold va_cpy zCpy
  by_cases e : dp ≤ (j : Int) ∧ (j : Int) < dp + m
  · have e2 : dp.toNat ≤ j ∧ j < dp.toNat + m.toNat := by omega
    rw [if_pos e, if_pos e2]
    have e3 : ((sp.toNat + (j - dp.toNat) : Nat) : Int) = sp + ((j : Int) - dp) := by omega
    show zI (f ((sp.toNat + (j - dp.toNat) : Nat) : Int)) = _
    rw [e3]
  · have e2 : ¬ (dp.toNat ≤ j ∧ j < dp.toNat + m.toNat) := by omega
    rw [if_neg e, if_neg e2]
theorem zRcpy {f g : Int → Int} {sp dp m : Int} (hf : ∀ c, zR (f c)) (hg : ∀ c, zR (g c)) : ∀ c, zR (zCpy f g sp dp m c) := by
  intro c
  unfold zCpy
  split
  · exact hf _
  · exact hg _
theorem v_copy (cx : zC Ω Γ cc nL own) {o1 N0 N1 idx : Nat} {sp dp mm : Int} (hy0 : Ls[o]? = some (zAr 1 N0)) (hy1 : Ls[o1]? = some (zAr 1 N1)) (hlk0 : Cond.methodLink own idx arraycopyName ∈ zT) (hnat : Cond.native arraycopyName ∈ zT) (hstat : Cond.static arraycopyName ∈ zT) (hini : Cond.initialized "java/lang/System" ∈ zT) (h1 : 0 ≤ sp) (h2 : 0 ≤ dp) (h3 : 0 ≤ mm) (h4 : sp + mm ≤ N0) (h5 : dp + mm ≤ N1) (hN0 : N0 ≤ 2147483647) (hN1 : N1 ≤ 2147483647) (hf : 1 ≤ R.frames) (hlo : (st.map fun v => v.category).sum + (nativeFrameWords "java/lang/System" "arraycopy" 5 + 11) ≤ R.locals) (hd : decode cc pc = .ok (.invokestatic idx, 3)) (h : zV Ω Γ R nL Q k n Ls ad (zW σ o1 (zCpy (σ o) (σ o1) sp dp mm)) (pc + 3) lv st) : zV Ω Γ R nL Q k n Ls ad σ pc lv (.int (zI mm) :: .int (zI dp) :: .ref (ad o1) :: .int (zI sp) :: .ref (ad o) :: st) := by
  obtain ⟨l, D, dA, A, sx⟩ := Ω
  obtain ⟨p, e, s, m, args, below, meth, c⟩ := Γ
  obtain ⟨hx', hb, hml, hown, hts, hK, hA, hlk, hst⟩ := cx
  intro H locs ls hl hP hD hS hr
  have r1 : zR sp := ⟨by omega, by omega⟩
  have r2 : zR dp := ⟨by omega, by omega⟩
  have r3 : zR mm := ⟨by omega, by omega⟩
  refine va_copyi hx' hb (by rw [hml, hl.1]) hown (hts _ hlk0) (hts _ hnat) (hts _ hstat) (hts _ hini) hK hP hD hS o o1 0 0 (ty := .int) (zw_get hy0) (zw_get hy1) rfl rfl rfl (fun q => by rw [show (0 : Int32) = zI 0 from rfl, zI_lt r1 zR_0] at q; omega) (fun q => by rw [show (0 : Int32) = zI 0 from rfl, zI_lt r2 zR_0] at q; omega) (fun q => by rw [show (0 : Int32) = zI 0 from rfl, zI_lt r3 zR_0] at q; omega) (by rw [zI_clamp r1, zI_clamp r3]; omega) (by rw [zI_clamp r2, zI_clamp r3]; omega) (fun _ _ => rfl) hf hlo hd ?_
  rw [zI_clamp r1, zI_clamp r2, zI_clamp r3, zcpy_eq h1 h2 h3]
  intro H1 locs1 hP1 hD1 hS1
  have e : (zw dA ad Ls σ).set o1 (ad o1, .inl (dA 1, N1, .inl (fun j : Nat => zI (zCpy (σ o) (σ o1) sp dp mm (j : Nat))))) = zw dA ad Ls (zW σ o1 (zCpy (σ o) (σ o1) sp dp mm)) := zw_put hy1 (by rw [zW_s]; rfl) (fun q hq => zW_o hq)
  rw [e] at hP1 hD1
  exact h H1 locs1 ls hl hP1 hD1 hS1 (zRG_W hr (zRcpy (hr o) (hr o1)))
/-- .. from a static row -/
theorem v_copyS (cx : zC Ω Γ cc nL own) (j : Nat) {o1 N0 N1 idx : Nat} {sp dp mm : Int} {q : String × Nat × List Int} (hq : zSA[j]? = some q) (hj : q.2.1 = j) (hN00 : q.2.2.length = N0) (hy1 : Ls[o1]? = some (zAr 1 N1)) (hlk0 : Cond.methodLink own idx arraycopyName ∈ zT) (hnat : Cond.native arraycopyName ∈ zT) (hstat : Cond.static arraycopyName ∈ zT) (hini : Cond.initialized "java/lang/System" ∈ zT) (h1 : 0 ≤ sp) (h2 : 0 ≤ dp) (h3 : 0 ≤ mm) (h4 : sp + mm ≤ N0) (h5 : dp + mm ≤ N1) (hN0 : N0 ≤ 2147483647) (hN1 : N1 ≤ 2147483647) (hf : 1 ≤ R.frames) (hlo : (st.map fun v => v.category).sum + (nativeFrameWords "java/lang/System" "arraycopy" 5 + 11) ≤ R.locals) (hd : decode cc pc = .ok (.invokestatic idx, 3)) (h : zV Ω Γ R nL Q k n Ls ad (zW σ o1 (zCpy (zSV j) (σ o1) sp dp mm)) (pc + 3) lv st) : zV Ω Γ R nL Q k n Ls ad σ pc lv (.int (zI mm) :: .int (zI dp) :: .ref (ad o1) :: .int (zI sp) :: .ref (Ω.2.2.2.2 j) :: st) := by
  obtain ⟨l, D, dA, A, sx⟩ := Ω
  obtain ⟨p, e, s, m, args, below, meth, c⟩ := Γ
  obtain ⟨hx', hb, hml, hown, hts, hK, hA, hlk, hst⟩ := cx
  intro H locs ls hl hP hD hS hr
  have r1 : zR sp := ⟨by omega, by omega⟩
  have r2 : zR dp := ⟨by omega, by omega⟩
  have r3 : zR mm := ⟨by omega, by omega⟩
  subst hN00
  obtain ⟨-, a2, a3, a4⟩ := hst.2.2.1 q (List.mem_of_getElem? hq)
  rw [hj] at a2 a3 a4
  have ef : (fun i : Nat => zI (q.2.2.getD i 0)) = fun i : Nat => zI (zSV j (i : Nat)) := by
    funext i
    unfold zSV
    rw [List.getD_eq_getElem?_getD (l := zSA), hq]
    simp
  rw [ef] at a2
  refine va_copyx hx' hb (by rw [hml, hl.1]) hown (hts _ hlk0) (hts _ hnat) (hts _ hstat) (hts _ hini) hK hP hD hS a2 a3 a4 o1 0 (zw_get hy1) rfl (fun q => by rw [show (0 : Int32) = zI 0 from rfl, zI_lt r1 zR_0] at q; omega) (fun q => by rw [show (0 : Int32) = zI 0 from rfl, zI_lt r2 zR_0] at q; omega) (fun q => by rw [show (0 : Int32) = zI 0 from rfl, zI_lt r3 zR_0] at q; omega) (by rw [zI_clamp r1, zI_clamp r3]; omega) (by rw [zI_clamp r2, zI_clamp r3]; omega) hf hlo hd ?_
  rw [zI_clamp r1, zI_clamp r2, zI_clamp r3, zcpy_eq h1 h2 h3]
  intro H1 locs1 hP1 hD1 hS1
  have e : (zw dA ad Ls σ).set o1 (ad o1, .inl (dA 1, N1, .inl (fun i : Nat => zI (zCpy (zSV j) (σ o1) sp dp mm (i : Nat))))) = zw dA ad Ls (zW σ o1 (zCpy (zSV j) (σ o1) sp dp mm)) := zw_put hy1 (by rw [zW_s]; rfl) (fun q hq => zW_o hq)
  rw [e] at hP1 hD1
  exact h H1 locs1 ls hl hP1 hD1 hS1 (zRG_W hr (zRcpy (fun c => ⟨by have := (zSV_R j c).1; omega, by have := (zSV_R j c).2; omega⟩) (hr o1)))
theorem v_mmax (cx : zC Ω Γ cc nL own) {idx : Nat} (hlk0 : Cond.methodLink own idx Lib.Math.max.name ∈ zT) (hstat : Cond.static Lib.Math.max.name ∈ zT) (hini : Cond.initialized "java/lang/Math" ∈ zT) (hcode : Cond.code Lib.Math.max.name Lib.Math.max.code 2 (some .int) ∈ zT) (ha : zR a) (hb0 : zR b) (hf : 1 ≤ R.frames) (hlo : (st.map fun v => v.category).sum + 13 ≤ R.locals) (hc : k ≤ R.cells) (hs : n ≤ R.slots) (hd : decode cc pc = .ok (.invokestatic idx, 3)) (h : zR (max a b) → zV Ω Γ R nL Q k n Ls ad σ (pc + 3) lv (.int (zI (max a b)) :: st)) : zV Ω Γ R nL Q k n Ls ad σ pc lv (.int (zI b) :: .int (zI a) :: st) := by
  obtain ⟨l, D, dA, A, sx⟩ := Ω
  obtain ⟨p, e, s, m, args, below, meth, c⟩ := Γ
  obtain ⟨hx', hb, hml, hown, hts, hK, hA, hlk, hst⟩ := cx
  intro H locs ls hl hP hD hS hr
  have e : (if zI a < zI b then zI b else zI a) = zI (max a b) := by
    by_cases q : a < b
    · rw [if_pos ((zI_lt ha hb0).mpr q)]
      congr 1
      omega
    · rw [if_neg (fun w => q ((zI_lt ha hb0).mp w))]
      congr 1
      omega
  refine va_mmax hx' hb (by rw [hml, hl.1]) hown (hts _ hlk0) (hts _ hstat) (hts _ hini) (hts _ hcode) hf hlo hc hs hd ?_
  rw [e]
  refine h ?_ H locs ls hl hP hD hS hr
  unfold zR at *
  omega
theorem v_mmin (cx : zC Ω Γ cc nL own) {idx : Nat} (hlk0 : Cond.methodLink own idx Lib.Math.min.name ∈ zT) (hstat : Cond.static Lib.Math.min.name ∈ zT) (hini : Cond.initialized "java/lang/Math" ∈ zT) (hcode : Cond.code Lib.Math.min.name Lib.Math.min.code 2 (some .int) ∈ zT) (ha : zR a) (hb0 : zR b) (hf : 1 ≤ R.frames) (hlo : (st.map fun v => v.category).sum + 13 ≤ R.locals) (hc : k ≤ R.cells) (hs : n ≤ R.slots) (hd : decode cc pc = .ok (.invokestatic idx, 3)) (h : zR (min a b) → zV Ω Γ R nL Q k n Ls ad σ (pc + 3) lv (.int (zI (min a b)) :: st)) : zV Ω Γ R nL Q k n Ls ad σ pc lv (.int (zI b) :: .int (zI a) :: st) := by
  obtain ⟨l, D, dA, A, sx⟩ := Ω
  obtain ⟨p, e, s, m, args, below, meth, c⟩ := Γ
  obtain ⟨hx', hb, hml, hown, hts, hK, hA, hlk, hst⟩ := cx
  intro H locs ls hl hP hD hS hr
  have e : (if zI b < zI a then zI b else zI a) = zI (min a b) := by
    by_cases q : b < a
    · rw [if_pos ((zI_lt hb0 ha).mpr q)]
      congr 1
      omega
    · rw [if_neg (fun w => q ((zI_lt hb0 ha).mp w))]
      congr 1
      omega
  refine va_mmin hx' hb (by rw [hml, hl.1]) hown (hts _ hlk0) (hts _ hstat) (hts _ hini) (hts _ hcode) hf hlo hc hs hd ?_
  rw [e]
  refine h ?_ H locs ls hl hP hD hS hr
  unfold zR at *
  omega
theorem v_mabs (cx : zC Ω Γ cc nL own) {idx : Nat} (hlk0 : Cond.methodLink own idx Lib.Math.abs.name ∈ zT) (hstat : Cond.static Lib.Math.abs.name ∈ zT) (hini : Cond.initialized "java/lang/Math" ∈ zT) (hcode : Cond.code Lib.Math.abs.name Lib.Math.abs.code 1 (some .int) ∈ zT) (ha : zR a) (hf : 1 ≤ R.frames) (hlo : (st.map fun v => v.category).sum + 13 ≤ R.locals) (hc : k ≤ R.cells) (hs : n ≤ R.slots) (hd : decode cc pc = .ok (.invokestatic idx, 3)) (h : zV Ω Γ R nL Q k n Ls ad σ (pc + 3) lv (.int (zI (max a (-a))) :: st)) : zV Ω Γ R nL Q k n Ls ad σ pc lv (.int (zI a) :: st) := by
  obtain ⟨l, D, dA, A, sx⟩ := Ω
  obtain ⟨p, e, s, m, args, below, meth, c⟩ := Γ
  obtain ⟨hx', hb, hml, hown, hts, hK, hA, hlk, hst⟩ := cx
  intro H locs ls hl hP hD hS hr
  have e : (if 0 ≤ zI a then zI a else 0 - zI a) = zI (max a (-a)) := by
    show (if zI 0 ≤ zI a then zI a else zI 0 - zI a) = zI (max a (-a))
    by_cases q : 0 ≤ a
    · rw [if_pos ((zI_le zR_0 ha).mpr q)]
      congr 1
      omega
    · rw [if_neg (fun w => q ((zI_le zR_0 ha).mp w)), zI_sub]
      congr 1
      omega
  refine va_mabs hx' hb (by rw [hml, hl.1]) hown (hts _ hlk0) (hts _ hstat) (hts _ hini) (hts _ hcode) hf hlo hc hs hd ?_
  rw [e]
  exact h H locs ls hl hP hD hS hr
end ZH
